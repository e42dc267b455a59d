/** The edges that the document names of SHIFTS under VII, and of promises 37 to 41. */
public final class EdgesOfShifts {
    private static final int EARLY = 0;
    private static final int LATE = 1;
    private static final int NIGHT = 2;

    private EdgesOfShifts() {
    }

    private static WorksCouncil team(int people) {
        WorksCouncil x = new WorksCouncil();
        for (int i = 0; i < people; i++) x.person(0, -9000, 0, 0, 0);
        return x;
    }

    private static WorksCouncil team(int early, int late, int night, int most) {
        WorksCouncil x = team(4);
        x.need(EARLY, early);
        x.need(LATE, late);
        x.need(NIGHT, night);
        x.set(4, most);
        return x;
    }

    /** Promise 37. */
    private static void needs() {
        Edge.says("promise 37: -2; -4; -6: NEED of a shift (0 .. 2): 0 .. 2 each");
        Edge.range(Setups::busy, "shift", (x, v) -> x.need(v, 1), 0, 2, -2, -2);
        for (int shift = 0; shift < 3; shift++) {
            int of = shift;
            Edge.range(Setups::busy, "need of " + shift, (x, v) -> x.need(of, v), 0, 2, -4, -6);
            Edge.taken(Setups::busy, "what it was", x -> x.need(of, 2), 1);
            WorksCouncil x = team(4);
            x.need(shift, 2);
            Edge.due("what it was", x.need(shift, 0), 2);
            Edge.due("what it was", x.need(shift, 0), 0);
        }
        Edge.refused(Setups::busy, "-2 ahead of -4", x -> x.need(3, -1), -2);
        Edge.refused(Setups::busy, "-2 ahead of -6", x -> x.need(-1, 3), -2);
    }

    /** Promise 38. */
    private static void wishes() {
        Edge.says("promise 38: -1 PERSON; -2 shift; -3 DAY 0 .. 3");
        Edge.range(Setups::busy, "person", (x, v) -> x.wish(v, 3, 0, true), 0, 5, -1, -1);
        Edge.range(() -> team(24), "person", (x, v) -> x.wish(v, 3, 0, true), 0, 23, -1, -1);
        Edge.range(Setups::busy, "day", (x, v) -> x.wish(1, v, 0, true), 0, 3, -3, -3);
        Edge.range(Setups::busy, "day, no more", (x, v) -> x.wish(1, v, 0, false), 0, 3, -3, -3);
        Edge.range(Setups::busy, "shift", (x, v) -> x.wish(1, 0, v, true), 0, 2, -2, -2);
        Edge.refused(Setups::busy, "-1 ahead of -2", x -> x.wish(6, 4, 3, true), -1);
        Edge.refused(Setups::busy, "-2 ahead of -3", x -> x.wish(0, 4, 3, true), -2);
        Edge.refused(Setups::busy, "-2 ahead of -3", x -> x.wish(0, -1, -1, true), -2);
        Edge.says("promise 38: A WISH, or no more: 1; 0 it was so");
        Edge.leaves(Setups::busy, "told again", x -> x.wish(0, 0, 0, true), 0);
        Edge.taken(Setups::busy, "no more", x -> x.wish(0, 0, 0, false), 1);
        Edge.leaves(Setups::busy, "none there", x -> x.wish(0, 0, 1, false), 0);
        Edge.leaves(Setups::busy, "none there", x -> x.wish(0, 1, 0, false), 0);
        Edge.leaves(Setups::busy, "none there", x -> x.wish(1, 0, 0, false), 0);
        Edge.taken(Setups::busy, "of who left", x -> x.wish(5, 0, 0, true), 1);
        Edge.says("WISHES: a PERSON does not want a shift (0 .. 2) on a DAY 0 .. 3, each apart");
        WorksCouncil x = team(4);
        for (int day = 0; day < 4; day++) {
            for (int shift = 0; shift < 3; shift++) {
                Edge.due("told", x.wish(0, day, shift, true), 1);
                Edge.due("there", x.wish(0, day, shift, true), 0);
            }
        }
        for (int shift = 0; shift < 3; shift++) Edge.due("of another one", x.wish(1, 0, shift, false), 0);
        WorksCouncil y = team(24);
        y.wish(23, 3, 2, true);
        Edge.due("of the 24th", y.wish(23, 3, 2, false), 1);
    }

    /** Promises 39 and 40. */
    private static void refusals() {
        Edge.says("promise 39: -1; -2: by a set of RULES (0 .. 7)");
        Edge.range(Setups::busy, "shop", (x, v) -> x.shifts(v, 0), 0, 5, -1, -1);
        Edge.range(Setups::busy, "rules", (x, v) -> x.shifts(0, v), 0, 7, -2, -2);
        Edge.refused(Setups::busy, "-1 ahead of -2", x -> x.shifts(6, 8), -1);
        Edge.leaves(Setups::busy, "it only tells", x -> x.shifts(0, 0), 0);
        Edge.says("promise 40: -1; -2; -3 DAY");
        Edge.range(Setups::busy, "shop", (x, v) -> x.shiftOf(v, 0, 0, 0), 0, 5, -1, -1);
        Edge.range(Setups::busy, "person", (x, v) -> x.shiftOf(0, 0, v, 0), 0, 5, -1, -1);
        Edge.range(Setups::busy, "rules", (x, v) -> x.shiftOf(0, v, 0, 0), 0, 7, -2, -2);
        Edge.range(Setups::busy, "day", (x, v) -> x.shiftOf(0, 0, 0, v), 0, 3, -3, -3);
        Edge.refused(Setups::busy, "-1 ahead of -2", x -> x.shiftOf(6, 8, 0, 4), -1);
        Edge.refused(Setups::busy, "-1 ahead of -2", x -> x.shiftOf(0, 8, 6, 4), -1);
        Edge.refused(Setups::busy, "-2 ahead of -3", x -> x.shiftOf(0, -1, 0, 4), -2);
        Edge.leaves(Setups::busy, "it only tells", x -> x.shiftOf(0, 0, 0, 0), 1);
        Edge.says("VII: for 4 PEOPLE (fewer: there are none); promise 39: -9 there are none");
        for (int people = 0; people < 4; people++) {
            int n = people;
            Edge.leaves(() -> team(n), n + " people", x -> x.shifts(0, 0), -9);
            if (n > 0) Edge.leaves(() -> team(n), n + " people", x -> x.shiftOf(0, 0, 0, 0), -9);
        }
        Edge.leaves(() -> team(4), "4 people", x -> x.shifts(0, 0), 0);
        Edge.leaves(() -> team(24), "24 people", x -> x.shifts(0, 7), 0);
        Edge.leaves(() -> team(4), "of another SHOP", x -> x.shifts(1, 0), -9);
        Edge.leaves(() -> team(2, 2, 2, 4), "none by NEED", x -> x.shifts(0, 0), -9);
        Edge.leaves(() -> team(2, 2, 2, 4), "none by NEED", x -> x.shiftOf(0, 0, 0, 0), -9);
        Edge.says("VII: the HERE ones of least numbers; promise 40: -9 the PERSON is not of the 4");
        Edge.leaves(() -> team(5), "the fourth", x -> x.shiftOf(0, 0, 3, 0), 3);
        Edge.leaves(() -> team(5), "the fifth", x -> x.shiftOf(0, 0, 4, 0), -9);
        Edge.Made left = () -> { WorksCouncil x = team(5); x.leave(0); return x; };
        Edge.leaves(left, "the fifth, as one left", x -> x.shiftOf(0, 0, 4, 0), 3);
        Edge.leaves(left, "who left", x -> x.shiftOf(0, 0, 0, 0), -9);
        Edge.leaves(left, "the second is the first now", x -> x.shiftOf(0, 0, 1, 0), 0);
        Edge.Made others = () -> { WorksCouncil x = team(4); for (int i = 0; i < 4; i++) x.person(5, -9000, 0, 0, 0); return x; };
        Edge.leaves(others, "of another SHOP", x -> x.shiftOf(5, 0, 3, 0), -9);
        Edge.leaves(others, "of that SHOP", x -> x.shiftOf(5, 0, 7, 3), 3);
    }

    private static void fewestWishes() {
        Edge.says("VII: the fewest WISHES broken");
        WorksCouncil x = team(2, 1, 1, 4);
        for (int p = 0; p < 4; p++) {
            for (int day = 0; day < 4; day++) for (int shift = 0; shift < 3; shift++) x.wish(p, day, shift, true);
        }
        Edge.due("all of them", x.shifts(0, 0), 16);
        Edge.due("all of them, by REST and MOST", x.shifts(0, 3), 16);
        x.set(4, 3);
        Edge.due("MOST 3: none", x.shifts(0, 2), -9);
        x.need(EARLY, 0);
        x.need(LATE, 0);
        x.need(NIGHT, 0);
        Edge.due("no NEED, none broken", x.shifts(0, 7), 0);
        for (int day = 0; day < 4; day++) Edge.due("none of them works", x.shiftOf(0, 7, 0, day), 3);
        WorksCouncil y = team(1, 0, 0, 4);
        for (int p = 0; p < 4; p++) if (p != 2) y.wish(p, 3, 0, true);
        Edge.due("one who wants it", y.shifts(0, 0), 0);
        Edge.due("on 3", y.shiftOf(0, 0, 2, 3), 0);
        Edge.due("on 2 the first", y.shiftOf(0, 0, 0, 2), 0);
        y.wish(2, 3, 0, true);
        Edge.due("nobody", y.shifts(0, 0), 1);
        Edge.due("of several the first", y.shiftOf(0, 0, 0, 3), 0);
        y.wish(3, 3, 0, false);
        Edge.due("taken back", y.shifts(0, 0), 0);
        Edge.due("the last one", y.shiftOf(0, 0, 3, 3), 0);
        y.leave(3);
        Edge.due("fewer than 4", y.shifts(0, 0), -9);
        y.person(0, -9000, 0, 0, 0);
        Edge.due("4 again", y.shifts(0, 0), 0);
        Edge.due("the new one", y.shiftOf(0, 0, 4, 3), 0);
    }

    private static void rules() {
        Edge.says("VII: 2 MOST (0 .. 4; 3 at first): nobody has more shifts than that");
        Edge.due("12 shifts, MOST 3", team(1, 1, 1, 3).shifts(0, 2), 0);
        Edge.due("12 shifts, MOST 2", team(1, 1, 1, 2).shifts(0, 2), -9);
        Edge.due("16 shifts, MOST 4", team(2, 1, 1, 4).shifts(0, 2), 0);
        Edge.due("16 shifts, MOST 3", team(2, 1, 1, 3).shifts(0, 2), -9);
        Edge.due("8 shifts, MOST 2", team(0, 2, 0, 2).shifts(0, 2), 0);
        Edge.due("8 shifts, MOST 1", team(0, 2, 0, 1).shifts(0, 2), -9);
        Edge.due("4 shifts, MOST 1", team(0, 0, 1, 1).shifts(0, 2), 0);
        Edge.due("4 shifts, MOST 0", team(0, 0, 1, 0).shifts(0, 2), -9);
        Edge.due("no shifts, MOST 0", team(0, 0, 0, 0).shifts(0, 7), 0);
        Edge.due("MOST is not asked", team(2, 1, 1, 0).shifts(0, 1), 0);
        Edge.due("MOST is not asked", team(1, 1, 1, 0).shifts(0, 5), 0);
        Edge.says("VII: 1 REST: no early, no late behind a night of the DAY ahead");
        WorksCouncil x = team(0, 1, 1, 4);
        Edge.due("night may be behind night, and late behind late", x.shifts(0, 1), 0);
        for (int day = 0; day < 4; day++) Edge.due("on " + day, x.shiftOf(0, 1, 0, day), LATE);
        int[][] both = {{0, 1, 2}, {1, 0, 2}, {0, 2, 1}, {2, 0, 1}};
        for (int[] need : both) {
            WorksCouncil y = team(need[0], need[1], need[2], 4);
            y.wish(0, 0, need[0] > 0 ? EARLY : LATE, true);
            y.wish(1, 0, need[0] > 0 ? EARLY : LATE, true);
            for (int day = 0; day < 3; day++) {
                for (int p = 0; p < 4; p++) {
                    int next = y.shiftOf(0, 1, p, day + 1);
                    boolean tired = y.shiftOf(0, 1, p, day) == NIGHT && (next == EARLY || next == LATE);
                    Edge.due("need " + need[0] + need[1] + need[2] + ", person " + p + " behind " + day, tired ? 1 : 0, 0);
                }
            }
        }
        Edge.says("VII: 4 FAIR: nobody has two nights more than another one");
        for (int one = 0; one < 4; one++) {
            WorksCouncil w = team(0, 0, 2, 4);
            for (int day = 0; day < 3; day++) w.wish(one, day, NIGHT, true);
            Edge.due(one + " may have one night, or none", w.shifts(0, 0), 0);
            Edge.due(one + " has as many as the others", w.shifts(0, 4), 1);
        }
        WorksCouncil z = team(0, 0, 1, 4);
        for (int day = 0; day < 4; day++) for (int p = 1; p < 4; p++) z.wish(p, day, NIGHT, true);
        Edge.due("all four nights to one", z.shifts(0, 0), 0);
        Edge.due("one each", z.shifts(0, 4), 3);
        for (int p = 0; p < 4; p++) {
            int nights = 0;
            for (int day = 0; day < 4; day++) nights += z.shiftOf(0, 4, p, day) == NIGHT ? 1 : 0;
            Edge.due("nights of " + p, nights, 1);
        }
    }

    /** What was asked of one SHOP, set of RULES, NEED or MOST is not told of another. */
    private static void askedInTurn() {
        Edge.says("VII: BEST by a set of RULES, of a SHOP, as all is now");
        WorksCouncil x = team(4);
        for (int i = 0; i < 4; i++) x.person(5, -9000, 0, 0, 0);
        for (int p = 4; p < 8; p++) x.wish(p, 0, EARLY, true);
        Edge.due("SHOP 0", x.shifts(0, 0), 0);
        Edge.due("SHOP 5", x.shifts(5, 0), 1);
        Edge.due("SHOP 0 again", x.shifts(0, 0), 0);
        Edge.due("SHOP 5, BARS", x.bars(5), -9);
        Edge.due("SHOP 5, behind BARS", x.shifts(5, 7), 1);
        Edge.due("SHOP 4, BARS", x.bars(4), -8);
        Edge.due("SHOP 5 again", x.shifts(5, 7), 1);
        Edge.due("BARS again", x.bars(5), -9);
        Edge.due("SHOP 5, behind BARS", x.shifts(5, 7), 1);
        x.set(4, 2);
        Edge.due("MOST 2", x.shifts(5, 7), -9);
        Edge.due("without RULES", x.shifts(5, 0), 1);
        x.set(4, 3);
        Edge.due("MOST 3", x.shifts(5, 7), 1);
        x.need(EARLY, 2);
        Edge.due("NEED as it is now", x.shifts(5, 0), 2);
        x.need(EARLY, 0);
        Edge.due("NEED as it is now", x.shifts(5, 0), 0);
        x.need(EARLY, 1);
        Edge.due("NEED as it is now", x.shifts(5, 0), 1);
        x.wish(7, 0, EARLY, false);
        Edge.due("WISHES as they are now", x.shifts(5, 0), 0);
        x.wish(7, 0, EARLY, true);
        Edge.due("WISHES as they are now", x.shifts(5, 0), 1);
        x.leave(7);
        Edge.due("fewer than 4", x.shifts(5, 0), -9);
        x.person(5, -9000, 0, 0, 0);
        Edge.due("4 again", x.shifts(5, 0), 0);
        Edge.due("the new one", x.shiftOf(5, 0, 8, 0), EARLY);
        Edge.says("VII: of several the first: DAY by DAY, in each PERSON by PERSON, the least shift");
        WorksCouncil y = team(4);
        int[] last = {3, NIGHT, LATE, EARLY};
        for (int p = 0; p < 4; p++) {
            for (int shift = 0; shift < 3; shift++) if (shift != last[p]) y.wish(p, 1, shift, true);
        }
        for (int p = 0; p < 4; p++) {
            Edge.due("the first one, of " + p, y.shiftOf(0, 0, p, 0), p);
            Edge.due("the last one, of " + p, y.shiftOf(0, 0, p, 1), last[p]);
            Edge.due("the first one again, of " + p, y.shiftOf(0, 0, p, 2), p);
        }
    }

    /** Whether there are any by the rules: all tables are tried, day by day. */
    private static boolean canBe(int[] need, int most, int rules) {
        return canBe(need, most, rules, 0, new int[4][4]);
    }

    private static boolean canBe(int[] need, int most, int rules, int day, int[][] table) {
        if (day == 4) return isFairEnough(table, most, rules);
        for (int code = 0; code < 256; code++) {
            int[] have = new int[4];
            boolean tired = false;
            for (int p = 0; p < 4; p++) {
                int shift = code >> 2 * p & 3;
                table[day][p] = shift;
                have[shift]++;
                tired |= day > 0 && table[day - 1][p] == NIGHT && shift < NIGHT;
            }
            if (have[0] != need[0] || have[1] != need[1] || have[2] != need[2]) continue;
            if ((rules & 1) != 0 && tired) continue;
            if (canBe(need, most, rules, day + 1, table)) return true;
        }
        return false;
    }

    private static boolean isFairEnough(int[][] table, int most, int rules) {
        int few = 4;
        int many = 0;
        for (int p = 0; p < 4; p++) {
            int shifts = 0;
            int nights = 0;
            for (int day = 0; day < 4; day++) {
                shifts += table[day][p] < 3 ? 1 : 0;
                nights += table[day][p] == NIGHT ? 1 : 0;
            }
            if ((rules & 2) != 0 && shifts > most) return false;
            few = Math.min(few, nights);
            many = Math.max(many, nights);
        }
        return (rules & 4) == 0 || many - few < 2;
    }

    /** Promise 41. */
    private static void bars() {
        Edge.says("promise 41: refused as told: -1 (not 1000000001)");
        Edge.range(Setups::busy, "shop", (x, v) -> x.bars(v), 0, 5, -1, -1);
        Edge.says("promise 41: -9 by all three there are some; -8 it has not 4");
        for (int people = 0; people < 6; people++) {
            int n = people;
            Edge.leaves(() -> team(n), n + " people", x -> x.bars(0), n < 4 ? -8 : -9);
        }
        Edge.leaves(() -> { WorksCouncil x = team(4); x.leave(3); return x; }, "one left", x -> x.bars(0), -8);
        Edge.leaves(() -> { WorksCouncil x = team(5); x.leave(3); return x; }, "one of five left", x -> x.bars(0), -9);
        Edge.leaves(() -> { WorksCouncil x = team(3); x.person(1, -9000, 0, 0, 0); return x; }, "one of another SHOP", x -> x.bars(0), -8);
        Edge.leaves(() -> { WorksCouncil x = team(3); x.need(0, 2); x.need(1, 2); return x; }, "-8 ahead of 0", x -> x.bars(0), -8);
        Edge.says("VII, BARS: the one with the fewest, of several the least (0: not even without RULES)");
        for (int need = 0; need < 27; need++) {
            int[] of = {need % 3, need / 3 % 3, need / 9};
            boolean[] any = new boolean[8];
            for (int most = 0; most <= 4; most++) {
                for (int rules = 0; rules < 8; rules++) any[rules] = canBe(of, most, rules);
                WorksCouncil x = team(of[0], of[1], of[2], most);
                String call = "need " + of[0] + of[1] + of[2] + ", MOST " + most;
                Edge.due(call, x.bars(0), fewest(any));
                for (int rules = 0; rules < 8; rules++) Edge.due(call + ", by " + rules, x.shifts(0, rules), any[rules] ? 0 : -9);
            }
        }
    }

    private static int fewest(boolean[] any) {
        if (any[7]) return -9;
        int best = 7;
        for (int rules = 6; rules >= 0; rules--) {
            if (!any[rules] && Integer.bitCount(rules) <= Integer.bitCount(best)) best = rules;
        }
        return best;
    }

    public static void main(String[] args) {
        needs();
        wishes();
        refusals();
        fewestWishes();
        rules();
        askedInTurn();
        bars();
        Edge.finish("edges of shifts");
    }
}
