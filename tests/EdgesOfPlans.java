/** The edges that the document names under VIII and of REFUSALS, and of promises 50 to 55. */
public final class EdgesOfPlans {
    private EdgesOfPlans() {
    }

    /** So many matters of the plan, each LONG 1, DUE at 6, that wait for none. */
    private static WorksCouncil planned(int n) {
        WorksCouncil x = new WorksCouncil();
        for (int i = 0; i < n; i++) x.planned(1, 6, 0);
        return x;
    }

    private static WorksCouncil row(int ints) {
        WorksCouncil x = Setups.kinds();
        for (int i = 0; i < 40; i++) x.open(7, 1, 0, false);
        x.days(3);
        for (int i = 0; i < ints; i++) x.put(0);
        return x;
    }

    /** Promise 50. */
    private static void planning() {
        Edge.says("promise 50: -4 (WAITS, too); -6 (LONG 1 .. 3, DUE 0 .. 6)");
        Edge.range(Setups::busy, "length", (x, v) -> x.planned(v, 0, 0), 1, 3, -4, -6);
        Edge.range(Setups::busy, "due", (x, v) -> x.planned(1, v, 0), 0, 6, -4, -6);
        Edge.says("promise 50: -3 WAITS: not lesser ones; VIII: a set of lesser ones");
        for (int there = 0; there < 7; there++) {
            int n = there;
            Edge.range(() -> planned(n), "waits behind " + n, (x, v) -> x.planned(1, 0, v), 0, (1 << n) - 1, -4, -3);
        }
        Edge.refused(Setups::busy, "one far above", x -> x.planned(1, 0, 1 << 30), -3);
        Edge.refused(Setups::busy, "-4 ahead of -3", x -> x.planned(0, 0, 4), -4);
        Edge.refused(Setups::busy, "-4 ahead of -3", x -> x.planned(1, -1, 4), -4);
        Edge.refused(Setups::busy, "-4 ahead of -6", x -> x.planned(4, 7, -1), -4);
        Edge.refused(Setups::busy, "-3 ahead of -6", x -> x.planned(4, 0, 4), -3);
        Edge.refused(Setups::busy, "-3 ahead of -6", x -> x.planned(1, 7, 4), -3);
        Edge.says("promise 50: its number; VIII: 7 at most; -6 7, too");
        Edge.taken(() -> planned(0), "the first", x -> x.planned(1, 0, 0), 0);
        Edge.taken(() -> planned(6), "the 7th", x -> x.planned(1, 0, 63), 6);
        Edge.refused(() -> planned(7), "the 8th", x -> x.planned(1, 0, 0), -6);
        Edge.refused(() -> planned(7), "the 8th, for all seven", x -> x.planned(1, 0, 127), -6);
        Edge.refused(() -> planned(7), "-3 ahead of -6", x -> x.planned(1, 0, 128), -3);
        Edge.refused(() -> planned(7), "-4 ahead of -6", x -> x.planned(0, 0, 0), -4);
    }

    private static void due(String call, WorksCouncil x, int late, int... places) {
        Edge.due(call, x.plan(), late);
        for (int i = 0; i < places.length; i++) Edge.due(call + ", place of " + i, x.placeOf(i), places[i]);
        Edge.due(call + ", place of one more", x.placeOf(places.length), -1);
    }

    private static WorksCouncil of(int roomy, int[]... matters) {
        WorksCouncil x = new WorksCouncil();
        x.set(3, roomy);
        for (int[] m : matters) x.planned(m[0], m[1], m[2]);
        return x;
    }

    /** Promises 51 and 52. */
    private static void plans() {
        Edge.says("promise 51: BEST PLAN: LATE together");
        due("none planned", new WorksCouncil(), 0);
        Edge.leaves(Setups::busy, "it only tells", x -> x.plan(), 0);
        Edge.says("promise 52: -1");
        Edge.range(Setups::busy, "planned", (x, v) -> x.placeOf(v), 0, 1, -1, -1);
        Edge.range(() -> planned(7), "planned", (x, v) -> x.placeOf(v), 0, 6, -1, -1);
        Edge.says("VIII: places may not be more than full: each as LONG as ROOMY (3 .. 9; 3 at first)");
        due("three of 1", planned(3), 0, 0, 0, 0);
        due("four of 1", planned(4), 0, 0, 0, 0, 1);
        due("seven of 1", planned(7), 0, 0, 0, 0, 1, 1, 1, 2);
        int[][] two = {{1, 0, 0}, {2, 0, 0}};
        due("just full", of(3, two), 0, 0, 0);
        int[][] both = {{2, 0, 0}, {2, 0, 0}};
        due("more than full", of(3, both), 1, 0, 1);
        due("just full", of(4, both), 0, 0, 0);
        int[][] three = {{3, 0, 0}, {3, 0, 0}, {3, 0, 0}};
        due("8 of 9", of(8, three), 1, 0, 0, 1);
        due("9 of 9", of(9, three), 0, 0, 0, 0);
        WorksCouncil x = of(9, three);
        x.plan();
        x.set(3, 3);
        due("ROOMY as it is now", x, 3, 0, 1, 2);
        x.planned(1, 0, 0);
        due("one more", x, 6, 0, 1, 2, 3);
        x.set(3, 4);
        due("ROOMY as it is now", x, 3, 0, 1, 2, 0);
        int[][] chain = new int[7][];
        int[][] fan = new int[7][];
        for (int i = 0; i < 7; i++) {
            chain[i] = new int[] {3, 6, i == 0 ? 0 : 1 << (i - 1)};
            fan[i] = new int[] {3, 0, 0};
        }
        due("seven full ones", of(3, fan), 21, 0, 1, 2, 3, 4, 5, 6);
        due("seven full ones, ROOMY 6", of(6, fan), 9, 0, 0, 1, 1, 2, 2, 3);
        Edge.says("VIII: behind all it WAITS for (not the same)");
        due("seven in a chain", of(9, chain), 0, 0, 1, 2, 3, 4, 5, 6);
        int[][] waits = {{1, 6, 0}, {1, 6, 1}, {1, 6, 3}, {1, 6, 1}, {1, 6, 8}};
        due("some wait", of(9, waits), 0, 0, 1, 2, 1, 2);
        int[][] all = {{1, 6, 0}, {1, 6, 0}, {3, 6, 0}, {1, 0, 7}};
        due("one for all", of(3, all), 2, 0, 0, 1, 2);
        Edge.says("VIII: LATE: how far its place is behind DUE");
        int[][] dues = {{3, 1, 0}, {3, 1, 0}, {3, 1, 0}, {3, 1, 0}};
        due("DUE 1: 0, 0, 1, 2", of(3, dues), 3, 0, 1, 2, 3);
        int[][] last = {{3, 0, 0}, {3, 6, 0}, {3, 0, 0}};
        due("DUE 6 gives way", of(3, last), 1, 0, 2, 1);
        int[][] next = {{3, 0, 0}, {3, 6, 0}, {3, 1, 0}};
        due("DUE 6 gives way to DUE 1", of(3, next), 0, 0, 2, 1);
        int[][] later = {{3, 6, 0}, {3, 5, 0}, {3, 4, 0}, {3, 3, 0}, {3, 2, 0}, {3, 1, 0}, {3, 0, 0}};
        due("all just by DUE", of(3, later), 0, 6, 5, 4, 3, 2, 1, 0);
        Edge.says("VIII: of several the first: by numbers the least places");
        int[][] same = {{2, 6, 0}, {2, 6, 0}, {1, 6, 0}, {1, 6, 0}};
        due("none is LATE", of(3, same), 0, 0, 1, 0, 1);
        int[][] swap = {{3, 6, 0}, {3, 0, 0}};
        due("the fewest LATE ahead of the least places", of(3, swap), 0, 1, 0);
    }

    /** Promise 53. */
    private static void putting() {
        Edge.says("promise 53: one int more on THE ROW: how many. -6 40");
        Edge.taken(() -> row(0), "the first", x -> x.put(0), 1);
        Edge.taken(() -> row(39), "the 40th", x -> x.put(0), 40);
        Edge.refused(() -> row(40), "the 41st", x -> x.put(0), -6);
        Edge.refused(() -> row(40), "the 41st", x -> x.put(Integer.MIN_VALUE), -6);
        for (int v : new int[] {Integer.MIN_VALUE, -1, 0, 1, 10, Integer.MAX_VALUE}) {
            Edge.taken(() -> row(0), "any int: " + v, x -> x.put(v), 1);
        }
        WorksCouncil x = row(40);
        Edge.due("all 40 right", x.check(3, 3), -9);
        Edge.due("room again", x.put(0), 1);
    }

    /** Promise 54. */
    private static void checking() {
        Edge.says("promise 54: -4; -3 j behind K, K behind now; THE ROW stays");
        Edge.range(() -> row(2), "j", (x, v) -> x.check(v, 3), 0, 3, -4, -3);
        Edge.range(() -> row(2), "k", (x, v) -> x.check(0, v), 0, 3, -4, -3);
        Edge.refused(() -> row(2), "j behind k", x -> x.check(2, 1), -3);
        Edge.taken(() -> row(2), "j as k", x -> x.check(2, 2), -9);
        Edge.refused(() -> row(2), "-4 ahead of -3", x -> x.check(4, -1), -4);
        Edge.refused(() -> row(2), "-4 ahead of -3", x -> x.check(-1, 4), -4);
        Edge.refused(() -> row(40), "a full ROW", x -> x.check(0, 4), -3);
        Edge.says("promise 54: THE ROW, which has none then, is checked");
        WorksCouncil x = row(3);
        Edge.due("right", x.check(0, 0), -9);
        Edge.due("none then", x.count(10), 0);
        x.put(1);
        Edge.due("wrong", x.check(0, 0), 0);
        Edge.due("none then", x.count(10), 0);
        Edge.due("an empty ROW", x.check(3, 3), -9);
        Edge.due("an empty ROW without matters", new WorksCouncil().check(0, 0), -9);
        Edge.says("VIII: the first i that is wrong; -9 if all are right");
        for (int at : new int[] {0, 1, 38, 39}) {
            WorksCouncil y = row(at);
            for (int i = at; i < 40; i++) y.put(1);
            Edge.due("wrong from " + at + " on", y.check(3, 3), at);
        }
        WorksCouncil far = row(1);
        far.put(Integer.MAX_VALUE);
        Edge.due("the greatest int", far.check(3, 3), 1);
        Edge.says("VIII: and not more than there are MATTERS opened by j");
        WorksCouncil z = Setups.kinds();
        z.put(0);
        Edge.due("one, no matter", z.check(0, 0), 0);
        z.open(7, 1, 0, false);
        z.days(1);
        z.open(7, 1, 0, false);
        z.days(1);
        int[][] rows = {{1, 0, 2, -9}, {2, 0, 2, 1}, {2, 1, 2, -9}, {2, 1, 1, -9}, {2, 2, 2, -9}, {3, 2, 2, 2}, {0, 0, 0, -9}, {1, 2, 2, -9}};
        for (int[] r : rows) {
            for (int i = 0; i < r[0]; i++) z.put(0);
            Edge.due(r[0] + " ints, on " + r[1] + " as known on " + r[2], z.check(r[1], r[2]), r[3]);
        }
        Edge.says("VIII: the STATE of matter i on a DAY j as known on K");
        WorksCouncil w = Setups.seated(3);
        w.open(2, 1, 0, false);
        w.session(0, 1);
        w.vote(0, 1, 0);
        w.days(1);
        w.voids(0);
        w.days(1);
        w.withdraw(0);
        int[][] known = {{0, 0, 4}, {0, 1, 3}, {0, 2, 3}, {1, 1, 3}, {1, 2, 3}, {2, 2, 1}};
        for (int[] r : known) {
            w.put(r[2]);
            Edge.due("on " + r[0] + " as known on " + r[1], w.check(r[0], r[1]), -9);
        }
    }

    /** Promise 55. */
    private static void counts() {
        Edge.says("promise 55: -9 for another what");
        for (int what : new int[] {-1, 17, 18, 100, Integer.MAX_VALUE, Integer.MIN_VALUE}) {
            Edge.leaves(Setups::busy, "count(" + what + ")", x -> x.count(what), -9);
        }
        Edge.says("promise 55: 0 DAY .. 10 ints of THE ROW");
        int[] due = {2, 5, 4, 6, 3, 2, 2, 2, 1, 3, 2, 0, 0, 0, 0, 0, 0};
        for (int what = 0; what < due.length; what++) {
            int asked = what;
            Edge.leaves(Setups::busy, "count(" + what + ")", x -> x.count(asked), due[what]);
        }
        WorksCouncil all = Setups.passed(9);
        all.votes(2, 1);
        all.elect(2);
        for (int i = 0; i < 7; i++) all.person(0, -9000, 0, 0, 0);
        for (int i = 0; i < 3; i++) all.session(0, 0);
        for (int i = 0; i < 6; i++) all.agree(i, 0, 1, -1);
        for (int i = 0; i < 8; i++) all.deed(i < 5 ? -1 : 0, 2, 1, 0);
        all.feed(8, 0);
        all.feed(2, 0);
        for (int i = 0; i < 11; i++) all.put(0);
        int[] apart = {1, 7, 4, 9, 2, 3, 6, 8, 5, 10, 11};
        for (int what = 0; what < apart.length; what++) Edge.due("each apart: count(" + what + ")", all.count(what), apart[what]);
        Edge.says("promise 55: 11 .. 16 REFUSALS -1 .. -6, each apart");
        WorksCouncil x = Setups.busy();
        for (int i = 0; i < 6; i++) x.leave(-1);
        for (int i = 0; i < 5; i++) x.open(-1, 1, 0, false);
        for (int i = 0; i < 4; i++) x.leave(5);
        for (int i = 0; i < 3; i++) x.days(0);
        for (int i = 0; i < 2; i++) x.days(1001);
        int[] refused = {6, 5, 4, 3, 0, 2};
        for (int i = 0; i < 6; i++) Edge.due("count(" + (11 + i) + ")", x.count(11 + i), refused[i]);
        Edge.says("REFUSALS: those told as 1000000000 less them are counted, too");
        x.deedOf(-1, 0);
        x.deedOf(0, 5);
        x.contract(8, 0, 0);
        x.contract(0, -2, 0);
        x.contract(0, 10000, 0);
        int[] more = {7, 7, 4, 4, 0, 3};
        for (int i = 0; i < 6; i++) Edge.due("count(" + (11 + i) + ")", x.count(11 + i), more[i]);
        Edge.says("REFUSALS: an answer of -9, -8 or a FAULT is none");
        WorksCouncil y = new WorksCouncil();
        y.act(0);
        y.bars(0);
        y.shifts(0, 0);
        y.time(0, 0);
        y.goes(0, 1, -1);
        y.worth(0, 0, 0, 0);
        y.count(-5);
        y.check(0, 0);
        y.kind(0, 1, 0, false, 1);
        y.contract(0, -1, 0);
        Edge.due("refusals", Edge.refusals(y), 0);
        for (int i = 0; i < 500; i++) y.days(0);
        Edge.due("five hundred", y.count(14), 500);
    }

    public static void main(String[] args) {
        planning();
        plans();
        putting();
        checking();
        counts();
        Edge.finish("edges of plans");
    }
}
