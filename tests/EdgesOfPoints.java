/** The edges that the document names of PIECES and POINTS under VII, and of promises 42 to 49. */
public final class EdgesOfPoints {
    private EdgesOfPoints() {
    }

    private static WorksCouncil studied(int... times) {
        WorksCouncil x = new WorksCouncil();
        for (int v : times) x.study(0, v);
        return x;
    }

    private static WorksCouncil studies(int n) {
        WorksCouncil x = new WorksCouncil();
        for (int i = 0; i < n; i++) x.study(0, 999);
        return x;
    }

    /** The person 0 and more of shop 0; of the points only what one weight tells counts. */
    private static WorksCouncil weighed(int which, int people) {
        WorksCouncil x = new WorksCouncil();
        for (int i = 0; i < 4; i++) x.weight(i, i == which ? 1 : 0);
        for (int i = 0; i < people; i++) x.person(0, -9000, 0, 0, 0);
        return x;
    }

    /** Promise 42. */
    private static void studying() {
        Edge.says("promise 42: -1; -4; -6: PIECES 0 .. 4, STUDIES 1 .. 999");
        Edge.range(Setups::busy, "piece", (x, v) -> x.study(v, 1), 0, 4, -1, -1);
        Edge.range(Setups::busy, "v", (x, v) -> x.study(0, v), 1, 999, -4, -6);
        Edge.refused(Setups::busy, "-1 ahead of -4", x -> x.study(5, 0), -1);
        Edge.refused(Setups::busy, "-1 ahead of -6", x -> x.study(-1, 1000), -1);
        Edge.says("promise 42: how many; VII: 12 each at most; -6 12, too");
        Edge.taken(Setups::empty, "the first", x -> x.study(4, 1), 1);
        Edge.taken(() -> studies(11), "the 12th", x -> x.study(0, 1), 12);
        Edge.refused(() -> studies(12), "the 13th", x -> x.study(0, 1), -6);
        Edge.refused(() -> studies(12), "-4 ahead of -6", x -> x.study(0, 0), -4);
        Edge.taken(() -> studies(12), "12 each", x -> x.study(1, 1), 1);
    }

    /** Promise 43. */
    private static void times() {
        Edge.says("promise 43: -1; -4; -6");
        Edge.range(Setups::busy, "piece", (x, v) -> x.time(v, 0), 0, 4, -1, -1);
        Edge.range(Setups::busy, "day", (x, v) -> x.time(0, v), 0, 1000, -4, -6);
        Edge.refused(Setups::busy, "-1 ahead of -4", x -> x.time(5, -1), -1);
        Edge.refused(Setups::busy, "-1 ahead of -6", x -> x.time(-1, 1001), -1);
        Edge.says("VII: if there are 3 or more, the mean without a least and a greatest one, cut; -9 with fewer");
        Edge.leaves(Setups::empty, "none", x -> x.time(0, 0), -9);
        Edge.leaves(() -> studied(5), "one", x -> x.time(0, 0), -9);
        Edge.leaves(() -> studied(5, 6), "two", x -> x.time(0, 0), -9);
        Edge.leaves(() -> studied(5, 6, 7), "three", x -> x.time(0, 0), 6);
        Edge.leaves(() -> studied(1, 999, 1), "a least one of two", x -> x.time(0, 0), 1);
        Edge.leaves(() -> studied(1, 999, 999), "a greatest one of two", x -> x.time(0, 0), 999);
        Edge.leaves(() -> studied(7, 7, 7), "all the same", x -> x.time(0, 0), 7);
        Edge.leaves(() -> studied(1, 2, 3, 999), "cut: 5 by 2", x -> x.time(0, 0), 2);
        Edge.leaves(() -> studied(999, 5, 1, 3, 3), "cut: 11 by 3", x -> x.time(0, 0), 3);
        Edge.leaves(() -> studies(12), "twelve", x -> x.time(0, 0), 999);
        Edge.leaves(() -> studied(1, 1, 1, 1, 1, 1, 1, 1, 1, 1, 1, 11), "twelve, the last is the greatest", x -> x.time(0, 0), 1);
        Edge.leaves(() -> studied(1, 1, 1, 1, 1, 1, 1, 1, 1, 1, 11, 11), "twelve: 20 by 10", x -> x.time(0, 0), 2);
        Edge.says("VII: of those of DAYS not behind");
        WorksCouncil x = studied(10, 20);
        x.days(500);
        x.study(0, 30);
        x.days(500);
        x.study(0, 40);
        int[][] due = {{0, -9}, {499, -9}, {500, 20}, {999, 20}, {1000, 25}};
        for (int[] row : due) Edge.due("on " + row[0], x.time(0, row[0]), row[1]);
        Edge.due("another PIECE", x.time(1, 1000), -9);
        Edge.due("a DAY to come", studied(5, 6, 7).time(0, 1000), 6);
    }

    /** Promise 44. */
    private static void changes() {
        Edge.says("promise 44: -1; -4; -6 (agreed, DAY): 1 .. 999");
        Edge.range(Setups::busy, "piece", (x, v) -> x.changed(v, 1, 0), 0, 4, -1, -1);
        Edge.range(Setups::busy, "agreed", (x, v) -> x.changed(0, v, 0), 1, 999, -4, -6);
        Edge.range(Setups::busy, "day", (x, v) -> x.changed(0, 1, v), 0, 1000, -4, -6);
        Edge.refused(Setups::busy, "-1 ahead of -4", x -> x.changed(5, 0, -1), -1);
        Edge.refused(Setups::busy, "-4 ahead of -6", x -> x.changed(0, 0, 1001), -4);
        Edge.refused(Setups::busy, "-4 ahead of -6", x -> x.changed(0, 1000, -1), -4);
        Edge.says("promise 44: 0 (no TIME on that DAY, too)");
        Edge.leaves(Setups::empty, "no STUDY", x -> x.changed(0, 1, 0), 0);
        Edge.leaves(() -> studied(500, 500), "two", x -> x.changed(0, 1, 0), 0);
        Edge.leaves(() -> studied(500, 500, 500), "three", x -> x.changed(0, 1, 0), 1);
        Edge.leaves(() -> { WorksCouncil x = Setups.empty(); x.days(1); for (int i = 0; i < 3; i++) x.study(0, 9); return x; },
                "on the DAY ahead", x -> x.changed(0, 1, 0), 0);
        Edge.says("VII: if it differs by more than a tenth of that (the tenth exactly)");
        // the TIME, what was agreed, whether it is CHANGED
        int[][] rows = {{100, 100, 0}, {110, 100, 0}, {111, 100, 1}, {90, 100, 0}, {89, 100, 1}, {99, 90, 0}, {100, 90, 1},
            {81, 90, 0}, {80, 90, 1}, {1, 1, 0}, {2, 1, 1}, {10, 9, 1}, {11, 10, 0}, {12, 10, 1}, {9, 10, 0}, {8, 10, 1},
            {10, 11, 0}, {12, 11, 0}, {13, 11, 1}, {9, 11, 1}, {18, 19, 0}, {20, 19, 0}, {17, 19, 1}, {21, 19, 1}, {900, 999, 0},
            {899, 999, 1}, {999, 999, 0}, {1, 999, 1}, {999, 1, 1}, {999, 909, 0}, {999, 908, 1}, {5, 5, 0}, {6, 5, 1}, {4, 5, 1}};
        for (int[] row : rows) {
            Edge.due(row[0] + " against " + row[1], studied(row[0], row[0], row[0]).changed(0, row[1], 0), row[2]);
        }
    }

    /** Promise 45. */
    private static void weights() {
        Edge.says("promise 45: -2; -4; -6: weights 0 .. 9");
        Edge.range(Setups::busy, "which", (x, v) -> x.weight(v, 1), 0, 3, -2, -2);
        for (int which = 0; which < 4; which++) {
            int of = which;
            Edge.range(Setups::busy, "weight " + which, (x, v) -> x.weight(of, v), 0, 9, -4, -6);
            WorksCouncil x = new WorksCouncil();
            x.weight(which, 9);
            Edge.due("what it was", x.weight(which, 0), 9);
            Edge.due("what it was", x.weight(which, 1), 0);
        }
        Edge.refused(Setups::busy, "-2 ahead of -4", x -> x.weight(4, -1), -2);
        Edge.refused(Setups::busy, "-2 ahead of -6", x -> x.weight(-1, 10), -2);
    }

    /** Promise 48. */
    private static void points() {
        Edge.says("promise 48: -1");
        Edge.range(Setups::busy, "person", (x, v) -> x.points(v), 0, 5, -1, -1);
        Edge.range(() -> weighed(0, 24), "person", (x, v) -> x.points(v), 0, 23, -1, -1);
        Edge.leaves(Setups::busy, "points", x -> x.points(0), 27 + 8 + 2);
        Edge.leaves(Setups::busy, "of who left", x -> x.points(5), 21);
        Edge.says("VII: AGE (whole years of 365 DAYS now) times w0");
        int[][] ages = {{-5000, 13}, {-5110, 14}, {-5109, 13}, {-5111, 14}, {-25000, 68}, {-24820, 68}, {-24819, 67}};
        for (int[] row : ages) {
            WorksCouncil x = weighed(0, 0);
            x.person(0, row[0], 0, 9, 100);
            Edge.due("born " + row[0], x.points(0), row[1]);
            x.weight(0, 9);
            Edge.due("born " + row[0] + ", w0 of 9", x.points(0), 9 * row[1]);
        }
        WorksCouncil old = weighed(0, 0);
        old.person(0, -25000, -15000, 9, 100);
        for (int which = 0; which < 4; which++) old.weight(which, 9);
        old.days(1000);
        Edge.due("the most of all", old.points(0), 9 * (71 + 43 + 9 + 100));
        for (int which = 0; which < 4; which++) old.weight(which, 0);
        Edge.due("the least of all", old.points(0), 0);
        Edge.says("VII: years since CAME times w1");
        WorksCouncil x = weighed(1, 0);
        x.person(0, -9000, 0, 9, 100);
        x.person(0, -9000, -364, 9, 100);
        x.person(0, -9000, -365, 9, 100);
        x.person(0, -9000, -15000, 9, 100);
        int[] years = {0, 0, 1, 41};
        for (int p = 0; p < 4; p++) Edge.due("person " + p, x.points(p), years[p]);
        x.days(1);
        Edge.due("a day later", x.points(1), 1);
        x.days(363);
        Edge.due("on 364", x.points(0), 0);
        x.days(1);
        Edge.due("on 365", x.points(0), 1);
        x.person(0, -9000, 365, 0, 0);
        Edge.due("came now", x.points(4), 0);
        Edge.says("VII: CHILDREN times w2, HURT times w3");
        WorksCouncil y = weighed(2, 0);
        y.person(0, -9000, 0, 9, 100);
        Edge.due("CHILDREN", y.points(0), 9);
        y.weight(2, 0);
        y.weight(3, 9);
        Edge.due("HURT", y.points(0), 900);
    }

    /** Promise 47. */
    private static void rights() {
        Edge.says("promise 47: -1; -2; -4; -6");
        Edge.range(Setups::busy, "person", (x, v) -> x.right(v, 0, 1), 0, 5, -1, -1);
        Edge.range(Setups::busy, "what", (x, v) -> x.right(0, v, 1), 0, 1, -2, -2);
        Edge.range(Setups::busy, "children", (x, v) -> x.right(0, 0, v), 0, 9, -4, -6);
        Edge.range(Setups::busy, "hurt", (x, v) -> x.right(0, 1, v), 0, 100, -4, -6);
        Edge.refused(Setups::busy, "-1 ahead of -2", x -> x.right(6, 2, -1), -1);
        Edge.refused(Setups::busy, "-2 ahead of -4", x -> x.right(0, 2, -1), -2);
        Edge.refused(Setups::busy, "-2 ahead of -6", x -> x.right(0, -1, 101), -2);
        Edge.says("promise 47: what they were (just ahead of it)");
        Edge.taken(Setups::busy, "CHILDREN", x -> x.right(0, 0, 9), 2);
        Edge.taken(Setups::busy, "HURT", x -> x.right(1, 1, 0), 30);
        WorksCouncil x = weighed(3, 1);
        x.list();
        x.days(20);
        Edge.due("too late", x.right(0, 1, 100), 0);
        Edge.due("just ahead, though it does not count", x.right(0, 1, 7), 100);
        Edge.due("by the LIST", x.points(0), 0);
    }

    /** Promise 46, and what it is for. */
    private static void lists() {
        Edge.says("VII: told more than LIMIT DAYS behind the LIST it does not count for it");
        int[][] rows = {{0, 0, 1}, {0, 1, 0}, {1, 1, 1}, {1, 2, 0}, {14, 14, 1}, {14, 15, 0}, {999, 999, 1}, {999, 1000, 0}, {1000, 1000, 1}};
        for (int[] row : rows) {
            for (int what = 0; what < 2; what++) {
                WorksCouncil x = weighed(2 + what, 1);
                x.set(2, row[0]);
                Edge.due("list", x.list(), 1);
                if (row[1] > 0) x.days(row[1]);
                x.right(0, what, 5);
                Edge.due("LIMIT " + row[0] + ", on " + row[1], x.points(0), row[2] * 5);
            }
        }
        WorksCouncil f = weighed(3, 1);
        f.list();
        f.days(14);
        f.right(0, 1, 5);
        Edge.due("14 at first", f.points(0), 5);
        f.days(1);
        f.right(0, 1, 6);
        Edge.due("15", f.points(0), 5);
        Edge.says("VII: LIMIT as it is when PUT RIGHT");
        f.set(2, 15);
        Edge.due("it was too late then", f.points(0), 5);
        f.right(0, 1, 7);
        Edge.due("in time now", f.points(0), 7);
        f.set(2, 0);
        Edge.due("it was in time then", f.points(0), 7);
        Edge.says("VII: without a LIST by what is so now");
        WorksCouncil w = weighed(3, 1);
        w.set(2, 0);
        w.days(1000);
        w.right(0, 1, 5);
        Edge.due("without", w.points(0), 5);
        Edge.says("VII: told now, for all; the latest; by what was so when the LIST was told");
        WorksCouncil x = weighed(3, 24);
        x.right(23, 1, 50);
        x.list();
        Edge.due("PUT RIGHT ahead of it", x.points(23), 50);
        x.set(2, 0);
        x.days(1);
        x.right(23, 1, 60);
        x.right(0, 1, 70);
        Edge.due("too late", x.points(23), 50);
        x.list();
        Edge.due("the latest", x.points(23), 60);
        Edge.due("for all", x.points(0), 70);
        x.right(0, 1, 80);
        Edge.due("by the latest's DAY", x.points(0), 80);
        Edge.says("VII: of who came behind the LIST: what was so as they came, or PUT RIGHT in time, by the LIST's DAY for these, too");
        WorksCouncil y = weighed(3, 0);
        y.set(2, 3);
        y.list();
        y.days(3);
        y.person(0, -9000, 3, 0, 11);
        y.person(0, -9000, 3, 0, 12);
        y.right(0, 1, 21);
        y.days(1);
        y.right(1, 1, 22);
        Edge.due("PUT RIGHT in time", y.points(0), 21);
        Edge.due("as they came", y.points(1), 12);
        y.person(0, -9000, 4, 0, 13);
        Edge.due("of who came too late for that", y.points(2), 13);
        y.right(2, 1, 23);
        Edge.due("as they came", y.points(2), 13);
        y.list();
        Edge.due("a new LIST", y.points(2), 23);
        WorksCouncil c = weighed(2, 0);
        c.list();
        c.days(15);
        c.person(0, -9000, 15, 6, 0);
        Edge.due("CHILDREN as they came", c.points(0), 6);
        Edge.due("PUT RIGHT too late", c.right(0, 0, 7), 6);
        Edge.due("CHILDREN as they came", c.points(0), 6);
        Edge.due("what they were, just ahead of it", c.right(0, 0, 8), 7);
        c.list();
        Edge.due("a new LIST", c.points(0), 8);
        Edge.says("VII: CHILDREN and HURT each apart");
        WorksCouncil z = weighed(2, 1);
        z.list();
        z.right(0, 0, 4);
        z.days(15);
        z.right(0, 0, 9);
        z.right(0, 1, 9);
        Edge.due("CHILDREN in time", z.points(0), 4);
        z.weight(3, 1);
        Edge.due("HURT too late", z.points(0), 4);
        Edge.says("VII: AGE and years as they are now, by the LIST, too");
        WorksCouncil a = weighed(0, 1);
        a.list();
        a.days(125);
        Edge.due("9125 by 365", a.points(0), 25);
    }

    /** Promise 49. */
    private static void going() {
        Edge.says("promise 49: -1 SHOP; -4; -6 n 0 .. 24");
        Edge.range(Setups::busy, "shop", (x, v) -> x.goes(v, 1, 0), 0, 5, -1, -1);
        Edge.range(Setups::busy, "n", (x, v) -> x.goes(0, v, 0), 0, 24, -4, -6);
        Edge.refused(Setups::busy, "-1 ahead of -4", x -> x.goes(6, -1, 0), -1);
        Edge.refused(Setups::busy, "-1 ahead of -6", x -> x.goes(-1, 25, 0), -1);
        Edge.refused(Setups::busy, "-4, i below 0", x -> x.goes(0, -1, -1), -4);
        Edge.refused(Setups::busy, "-6, i below 0", x -> x.goes(0, 25, -1), -6);
        Edge.says("promise 49: the i-th; -9 there is none such (i below 0, too)");
        int[][] rows = {{0, 0, -9}, {0, -1, -9}, {1, 0, 2}, {1, 1, -9}, {1, -1, -9}, {4, 3, 3}, {4, 4, -9}, {3, 3, -9},
            {24, 0, 2}, {24, 1, 0}, {24, 2, 1}, {24, 3, 3}, {24, 4, -9}, {24, 23, -9}, {24, 24, -9},
            {24, Integer.MAX_VALUE, -9}, {24, Integer.MIN_VALUE, -9}};
        for (int[] row : rows) {
            Edge.leaves(Setups::busy, "goes(0, " + row[0] + ", " + row[1] + ")", x -> x.goes(0, row[0], row[1]), row[2]);
        }
        Edge.leaves(Setups::busy, "nobody in that SHOP", x -> x.goes(5, 24, 0), -9);
        Edge.leaves(Setups::empty, "nobody at all", x -> x.goes(0, 24, 0), -9);
        Edge.leaves(() -> weighed(0, 24), "all 24: the first", x -> x.goes(0, 24, 0), 23);
        Edge.leaves(() -> weighed(0, 24), "all 24: the last", x -> x.goes(0, 24, 23), 0);
        Edge.leaves(() -> weighed(0, 24), "23 of 24", x -> x.goes(0, 23, 23), -9);
        Edge.says("VII: those HERE with the least POINTS, of several who came last, then the greater numbers");
        WorksCouncil x = weighed(2, 0);
        int[][] people = {{-5, 1}, {-5, 1}, {-6, 1}, {-4, 1}, {-900, 0}, {0, 2}, {-4, 1}};
        for (int[] p : people) x.person(0, -9000, p[0], p[1], 0);
        int[] order = {4, 6, 3, 1, 0, 2, 5};
        for (int i = 0; i < 7; i++) Edge.due("the " + i + "-th", x.goes(0, 7, i), order[i]);
        x.leave(4);
        x.leave(3);
        int[] rest = {6, 1, 0, 2, 5, -9, -9};
        for (int i = 0; i < 7; i++) Edge.due("of those HERE the " + i + "-th", x.goes(0, 24, i), rest[i]);
        Edge.says("VII: WHO GOES by the LIST");
        WorksCouncil y = weighed(3, 2);
        y.right(0, 1, 1);
        y.right(1, 1, 2);
        y.list();
        y.days(15);
        y.right(0, 1, 3);
        Edge.due("by the LIST", y.goes(0, 1, 0), 0);
        y.list();
        Edge.due("by a new one", y.goes(0, 1, 0), 1);
    }

    public static void main(String[] args) {
        studying();
        times();
        changes();
        weights();
        points();
        rights();
        lists();
        going();
        Edge.finish("edges of points");
    }
}
