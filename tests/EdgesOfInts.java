import java.lang.reflect.InvocationTargetException;
import java.lang.reflect.Method;
import java.util.ArrayList;
import java.util.List;

/**
 * Every call with the least, the greatest and other far ints in each of its places, on objects with nothing, with something
 * of everything, and with all that is full: no call throws, and a refusal is one that the document knows.
 */
public final class EdgesOfInts {
    private static final int[] FAR = {Integer.MIN_VALUE, Integer.MIN_VALUE + 1, -65536, -2, -1, 0, 1, 2, 31, 32, 33, 64,
        1 << 16, 1 << 30, Integer.MAX_VALUE - 1, Integer.MAX_VALUE};
    private static final int[] FEWER = {Integer.MIN_VALUE, -1, 0, 1, 32, Integer.MAX_VALUE};
    private static final int MOST_CALLS = 300;

    private EdgesOfInts() {
    }

    /** All rows full: people, acts, text, matters, tellings, sessions, deeds, amounts, studies, the plan and THE ROW. */
    private static WorksCouncil full() {
        WorksCouncil x = Setups.seated(9);
        x.set(3, 9);
        for (int i = 0; i < 15; i++) x.person(i % 6, -9000, 0, 0, 0);
        for (int i = 0; i < 20; i++) Setups.act(x, "H4:m=" + i, 0);
        for (int i = 0; i < 40; i++) x.open(i < 30 ? 2 : 3, 3, 100, false);
        for (int i = 0; i < 28; i++) x.paper(0, 7, true);
        for (int i = 0; i < 30; i++) x.session(0, 511);
        for (int i = 0; i < 40; i++) x.vote(i, i == 0 ? 0 : 511, 0);
        x.board(0, 2, 2, true);
        for (int i = 0; i < 30; i++) x.agree(i, 1, 0, -1);
        for (int i = 0; i < 60; i++) x.deed(i % 40, i % 40 < 30 ? 2 : 3, 1, 0);
        for (int i = 0; i < 7; i++) x.planned(1, 0, 0);
        for (int i = 0; i < 5; i++) x.study(4, 9);
        for (int i = 0; i < 8; i++) x.feed(i < 7 ? 8 : 4, 0);
        for (int i = 0; i < 40; i++) x.put(4);
        x.days(1000);
        return x;
    }

    private static void fullIsFull() {
        Edge.says("everything full");
        int[] due = {1000, 24, 24, 40, 9, 30, 30, 60, 0, 60, 40, 0, 0, 0, 0, 0, 0};
        WorksCouncil x = full();
        for (int what = 0; what < due.length; what++) Edge.due("count(" + what + ")", x.count(what), due[what]);
        Edge.due("tellings of 0", x.matterOf(0, 4), 30);
        Edge.due("its state", x.state(0, 1000, 1000), 8);
    }

    /** All rows of values for the parameters of a method, the fewer of them the more of it has. */
    private static List<Object[]> rowsOf(Method method) {
        Class<?>[] types = method.getParameterTypes();
        int ints = 0;
        for (Class<?> type : types) ints += type == boolean.class ? 0 : 1;
        int[] values = ints > 2 ? FEWER : FAR;
        List<Object[]> rows = new ArrayList<>();
        rows.add(new Object[types.length]);
        for (int i = 0; i < types.length; i++) {
            List<Object[]> longer = new ArrayList<>();
            for (Object[] row : rows) {
                for (int v = 0; v < (types[i] == boolean.class ? 2 : values.length); v++) {
                    Object[] next = row.clone();
                    next[i] = types[i] == boolean.class ? (Object) (v == 1) : types[i] == long.class ? (Object) (long) values[v] : values[v];
                    longer.add(next);
                }
            }
            rows = longer;
        }
        return rows;
    }

    private static void callAll(String of, Edge.Made made) throws IllegalAccessException {
        for (Method method : WorksCouncil.class.getDeclaredMethods()) {
            if (!java.lang.reflect.Modifier.isPublic(method.getModifiers())) continue;
            WorksCouncil x = made.make();
            int calls = 0;
            for (Object[] row : rowsOf(method)) {
                if (calls == MOST_CALLS) x = made.make();
                if (calls == MOST_CALLS) calls = 0;
                calls++;
                int before = Edge.refusals(x);
                long answer = answerOf(of, method, row, x);
                boolean isRefusal = answer <= -1 && answer >= -6 || answer > 1000000000L;
                String call = of + ", " + method.getName() + java.util.Arrays.toString(row);
                if (Edge.refusals(x) != before) Edge.due(call + " answers a refusal, " + answer, isRefusal ? 1 : 0, 1);
                Edge.due(call + " is no MISSING", x.count(15), 0);
            }
        }
    }

    private static long answerOf(String of, Method method, Object[] row, WorksCouncil x) throws IllegalAccessException {
        try {
            return (Integer) method.invoke(x, row);
        } catch (InvocationTargetException thrown) {
            Edge.due(of + ", " + method.getName() + java.util.Arrays.toString(row) + " threw " + thrown.getCause(), 1, 0);
            return 0;
        }
    }

    public static void main(String[] args) throws IllegalAccessException {
        fullIsFull();
        Edge.says("no call throws, and a refusal is one that the document knows");
        callAll("empty", Setups::empty);
        callAll("busy", Setups::busy);
        callAll("full", EdgesOfInts::full);
        Edge.finish("edges of ints");
    }
}
