import java.util.Arrays;

/** What the edge tests share: each check stands under the words of the document that it holds the class to. */
final class Edge {
    static final int NOBODY = -1;
    static final int OTHER = -2;
    static final int STATE = -3;
    static final int BELOW = -4;
    static final int ROOM = -6;

    /** Makes the same object each time, so that what a call changed can be seen beside one without the call. */
    interface Made {
        WorksCouncil make();
    }

    interface Call {
        long on(WorksCouncil x);
    }

    interface Taking {
        long on(WorksCouncil x, int v);
    }

    private static final int ROOM_FOR_LOOKS = 6;

    private static int asked = 0;
    private static int wrong = 0;
    private static String words = "";

    private Edge() {
    }

    static void says(String itsWords) {
        words = itsWords;
    }

    static void due(String call, long got, long want) {
        asked++;
        if (got != want) fail(call + " answered " + got + ", due is " + want);
    }

    private static void fail(String what) {
        wrong++;
        System.out.println(words + ": " + what);
    }

    /** The call is taken: it answers what is due, and no refusal is counted. */
    static void taken(Made made, String call, Call it, long want) {
        WorksCouncil x = made.make();
        int before = refusals(x);
        due(call, it.on(x), want);
        due(call + ", refusals", refusals(x) - before, 0);
    }

    /** The call is refused: it answers the number, counts it once, and leaves all else as it was. */
    static void refused(Made made, String call, Call it, int number) {
        compare(made, call, it, number, number);
    }

    /** The same where answers may be below 0 otherwise. */
    static void refusedFar(Made made, String call, Call it, int number) {
        compare(made, call, it, 1000000000L - number, number);
    }

    /** The call answers what is due and leaves all as it was. */
    static void leaves(Made made, String call, Call it, long want) {
        compare(made, call, it, want, 0);
    }

    private static void compare(Made made, String call, Call it, long want, int counted) {
        for (int part = 0; part < Look.PARTS; part++) {
            WorksCouncil x = made.make();
            long got = it.on(x);
            if (part == 0) due(call, got, want);
            int[] now = Look.at(x, part);
            int[] before = Look.at(made.make(), part);
            if (part == 0 && counted != 0) before[10 - counted]++;
            asked++;
            int at = Arrays.mismatch(now, before);
            if (at >= 0) fail(call + " changed what look " + part + " sees at " + at);
        }
    }

    static int refusals(WorksCouncil x) {
        int n = 0;
        for (int i = 1; i <= ROOM_FOR_LOOKS; i++) n += x.count(10 + i);
        return n;
    }

    /** Of a number that a call takes: the least and the greatest are taken, what lies beyond is refused. */
    static void range(Made made, String call, Taking it, int least, int greatest, int below, int above) {
        untaken(made, call, it, least - 1, below);
        untaken(made, call, it, Integer.MIN_VALUE, below);
        isTaken(made, call, it, least);
        isTaken(made, call, it, greatest);
        untaken(made, call, it, greatest + 1, above);
        untaken(made, call, it, Integer.MAX_VALUE, above);
    }

    /** The same where refusals are told as 1000000000 less them. */
    static void rangeFar(Made made, String call, Taking it, int least, int greatest, int below, int above) {
        untakenFar(made, call, it, least - 1, below);
        untakenFar(made, call, it, Integer.MIN_VALUE, below);
        isTaken(made, call, it, least);
        isTaken(made, call, it, greatest);
        untakenFar(made, call, it, greatest + 1, above);
        untakenFar(made, call, it, Integer.MAX_VALUE, above);
    }

    private static void untaken(Made made, String call, Taking it, int v, int number) {
        refused(made, call + " of " + v, x -> it.on(x, v), number);
    }

    private static void untakenFar(Made made, String call, Taking it, int v, int number) {
        refusedFar(made, call + " of " + v, x -> it.on(x, v), number);
    }

    private static void isTaken(Made made, String call, Taking it, int v) {
        WorksCouncil x = made.make();
        int before = refusals(x);
        long got = it.on(x, v);
        asked++;
        if (refusals(x) != before || got >= 1000000000L) fail(call + " of " + v + " was refused with " + got);
    }

    static void finish(String name) {
        System.out.println(name + ": " + asked + " answers, " + wrong + " not as due");
        if (wrong != 0) System.exit(1);
    }
}
