import java.lang.reflect.Method;
import java.nio.file.Files;
import java.nio.file.Path;
import java.util.Set;
import java.util.TreeSet;
import java.util.regex.Matcher;
import java.util.regex.Pattern;

/** Holds README.md against the document's face (every call, with its parameters) and its example against the class. */
public final class ReadmeHolds {
    private static int wrong = 0;

    private static void must(boolean holds, String what) {
        if (!holds) {
            wrong++;
            System.out.println("readme: " + what);
        }
    }

    public static void main(String[] args) throws Exception {
        String readme = Files.readString(Path.of("README.md"));
        Path shared = Path.of(System.getProperty("shared", "../shared"));
        checkCalls(readme, Files.readString(shared.resolve("DOC.md")));
        checkExample(readme);
        System.out.println("readme: " + wrong + " not so");
        if (wrong != 0) System.exit(1);
    }

    private static void checkCalls(String readme, String document) {
        Set<String> face = all("(?m)^ +public int (\\w+\\([^)]*\\));$", document);
        Set<String> told = all("(?m)^\\| `(\\w+\\([^)]*\\))` \\|[^|]+\\|[^|]+\\|[^|]+\\|$", readme);
        must(face.size() == 54, "the document's face has " + face.size() + " calls");
        for (String call : face) must(told.contains(call), "lacks " + call);
        for (String call : told) must(face.contains(call), "the document has no " + call);
    }

    private static Set<String> all(String pattern, String text) {
        Set<String> found = new TreeSet<>();
        Matcher m = Pattern.compile(pattern).matcher(text);
        while (m.find()) found.add(m.group(1));
        return found;
    }

    private static void checkExample(String readme) throws Exception {
        WorksCouncil x = new WorksCouncil();
        Matcher m = Pattern.compile("(?m)^x\\.(\\w+)\\(([^)]*)\\); +// (-?\\d+): ").matcher(readme);
        int calls = 0;
        while (m.find()) {
            calls++;
            int got = play(x, m.group(1), m.group(2).split(", "));
            must(got == Integer.parseInt(m.group(3)), m.group() + "but it answers " + got);
        }
        int lines = readme.split("(?m)^x\\.").length - 1;
        must(calls > 10 && calls == lines, calls + " of " + lines + " calls of the example were played");
    }

    private static int play(WorksCouncil x, String call, String[] words) throws Exception {
        for (Method method : WorksCouncil.class.getDeclaredMethods()) {
            if (!method.getName().equals(call)) continue;
            Class<?>[] types = method.getParameterTypes();
            Object[] values = new Object[types.length];
            for (int i = 0; i < types.length; i++) values[i] = value(types[i], words[i]);
            return (int) method.invoke(x, values);
        }
        throw new IllegalStateException(call);
    }

    private static Object value(Class<?> type, String word) {
        if (type == boolean.class) return Boolean.valueOf(word);
        if (type == long.class) return Long.decode(word.replace("L", ""));
        return Integer.valueOf(word);
    }
}
