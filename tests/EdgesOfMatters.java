/** The edges that the document names under III, and of promises 12 to 16. */
public final class EdgesOfMatters {
    private EdgesOfMatters() {
    }

    private static WorksCouncil matters(int n) {
        WorksCouncil x = Setups.kinds();
        for (int i = 0; i < n; i++) x.open(i % 5, 1 + i, i, false);
        return x;
    }

    /** Matter 0 of kind 3 with so many tellings: paper 0, given again and again. */
    private static WorksCouncil told(int tellings) {
        WorksCouncil x = matters(0);
        x.open(2, 1, 0, false);
        for (int i = 0; i < tellings; i++) x.paper(0, 0, true);
        return x;
    }

    /** Matter 0 of a kind with a span, opened on a day; silence as at first. */
    private static WorksCouncil running(int kind, int span, int day) {
        WorksCouncil x = Setups.seated(3);
        if (day > 0) x.days(day);
        x.term(kind, 1, span);
        x.open(Setups.whatOf(kind), 1, 0, false);
        return x;
    }

    /** Promise 12. */
    private static void opening() {
        Edge.says("promise 12: -2 WHAT; -4 SHOPS below 1, SUM; -6; III: SUM (0 .. 9999)");
        Edge.range(Setups::busy, "WHAT", (x, v) -> x.open(v, 1, 0, false), 0, 7, -2, -2);
        Edge.range(Setups::busy, "shops", (x, v) -> x.open(0, v, 0, false), 1, 63, -4, -6);
        Edge.range(Setups::busy, "sum", (x, v) -> x.open(0, 1, v, false), 0, 9999, -4, -6);
        Edge.refused(Setups::busy, "-2 ahead of -4", x -> x.open(8, 0, -1, true), -2);
        Edge.refused(Setups::busy, "-2 ahead of -6", x -> x.open(-1, 64, 10000, true), -2);
        Edge.refused(Setups::busy, "-4 ahead of -6", x -> x.open(0, 0, 10000, true), -4);
        Edge.refused(Setups::busy, "-4 ahead of -6", x -> x.open(0, 64, -1, true), -4);
        Edge.says("III: MATTERS have numbers from 0 on (40 at most); promise 12: -6 40, too");
        Edge.taken(() -> matters(0), "the first", x -> x.open(0, 1, 0, false), 0);
        Edge.taken(() -> matters(39), "the 40th", x -> x.open(7, 63, 9999, true), 39);
        Edge.refused(() -> matters(40), "the 41st", x -> x.open(0, 1, 0, false), -6);
        Edge.refused(() -> matters(40), "the 41st, WHAT", x -> x.open(8, 1, 0, false), -2);
        Edge.refused(() -> matters(40), "the 41st, SHOPS", x -> x.open(0, 0, 0, false), -4);
        Edge.refused(() -> { WorksCouncil x = matters(40); x.withdraw(0); return x; }, "withdrawn ones keep numbers", x -> x.open(0, 1, 0, false), -6);
        Edge.says("III: KIND as now; NEEDS, SPAN, SILENCE of it as now");
        WorksCouncil x = Setups.kinds();
        x.open(2, 1, 0, false);
        x.term(3, 0, 1);
        x.term(3, 1, 0);
        x.term(3, 2, 1);
        x.strike(2, 0);
        x.days(1);
        Edge.due("of the one opened ahead: needs and span", x.state(0, 1, 1), 3);
        Edge.due("its KIND", x.matterOf(0, 0), 3);
        Edge.due("its ACT", x.matterOf(0, 5), 2);
        x.days(7);
        Edge.due("its silence", x.state(0, 8, 8), 7);
        Setups.act(x, "C3:u=1", 8);
        Edge.due("URGENT", x.open(2, 1, 0, true), 1);
        Edge.due("or not", x.open(2, 1, 0, false), 2);
        Edge.due("KIND of URGENT", x.matterOf(1, 0), 3);
        Edge.due("KIND of not", x.matterOf(2, 0), 0);
        Edge.due("its needs", x.state(1, 8, 8), 2);
        x.paper(1, 0, true);
        x.days(1);
        Edge.due("its span, its silence", x.state(1, 9, 9), 6);
        WorksCouncil y = new WorksCouncil();
        Setups.act(y, "A3:m=9999&s=6&n=1", 0);
        y.person(5, -9000, 0, 0, 0);
        y.open(0, 63, 9999, false);
        y.open(0, 31, 9999, false);
        y.open(0, 63, 9998, false);
        Edge.due("the greatest SUM, all SHOPS", y.matterOf(0, 0), 3);
        Edge.due("one SHOP less", y.matterOf(1, 0), 0);
        Edge.due("SUM one less", y.matterOf(2, 0), 0);
    }

    /** Promise 13. */
    private static void papers() {
        Edge.says("promise 13: -1 matter, PAPER p (0 .. 7)");
        Edge.range(Setups::busy, "matter", (x, m) -> x.paper(m, 0, true), 0, 5, -1, -1);
        Edge.range(() -> matters(40), "matter", (x, m) -> x.paper(m, 0, true), 0, 39, -1, -1);
        Edge.range(Setups::busy, "p, whole", (x, p) -> x.paper(0, p, true), 0, 7, -1, -1);
        Edge.Made all = () -> {
            WorksCouncil x = told(0);
            for (int p = 0; p < 8; p++) x.paper(0, p, true);
            return x;
        };
        Edge.range(all, "p, not whole", (x, p) -> x.paper(0, p, false), 0, 7, -1, -1);
        Edge.says("promise 13: -3 WITHDRAWN; false: no such PAPER counts now");
        Edge.Made withdrawn = () -> { WorksCouncil x = told(1); x.withdraw(0); return x; };
        Edge.refused(withdrawn, "WITHDRAWN", x -> x.paper(0, 0, true), -3);
        Edge.refused(withdrawn, "WITHDRAWN", x -> x.paper(0, 0, false), -3);
        Edge.refused(withdrawn, "-1 ahead of -3", x -> x.paper(0, 8, true), -1);
        Edge.refused(() -> told(0), "none was given", x -> x.paper(0, 0, false), -3);
        Edge.refused(() -> told(1), "another was given", x -> x.paper(0, 1, false), -3);
        Edge.Made undone = () -> { WorksCouncil x = told(2); x.paper(0, 0, false); return x; };
        Edge.refused(undone, "both count no more", x -> x.paper(0, 0, false), -3);
        Edge.taken(undone, "given anew", x -> x.paper(0, 0, true), 4);
        Edge.taken(() -> { WorksCouncil x = undone.make(); x.paper(0, 0, true); return x; }, "and undone", x -> x.paper(0, 0, false), 5);
        Edge.says("promise 13: how many TELLINGS the matter has; III: 30 in all; -6 30 TELLINGS");
        Edge.taken(() -> told(0), "the first", x -> x.paper(0, 0, true), 1);
        Edge.taken(() -> told(29), "the 30th", x -> x.paper(0, 7, true), 30);
        Edge.taken(() -> told(29), "the 30th", x -> x.paper(0, 0, false), 30);
        Edge.refused(() -> told(30), "the 31st", x -> x.paper(0, 0, true), -6);
        Edge.refused(() -> told(30), "the 31st", x -> x.paper(0, 0, false), -6);
        Edge.refused(() -> told(30), "-3 ahead of -6", x -> x.paper(0, 1, false), -3);
        Edge.refused(() -> told(30), "-1 ahead of -6", x -> x.paper(0, -1, true), -1);
        Edge.Made over = () -> { WorksCouncil x = told(29); x.withdraw(0); return x; };
        Edge.refused(over, "WITHDRAWN ahead of -6", x -> x.paper(0, 0, true), -3);
        WorksCouncil x = told(30);
        x.open(2, 1, 0, false);
        Edge.due("30 of each matter", x.paper(1, 0, true), 1);
    }

    /** Promise 14. */
    private static void withdrawals() {
        Edge.says("promise 14: -1; -3 so already; -6");
        Edge.range(Setups::busy, "matter", (x, m) -> x.withdraw(m), 0, 5, -1, -1);
        Edge.taken(Setups::busy, "withdraw", x -> x.withdraw(4), 1);
        Edge.Made withdrawn = () -> { WorksCouncil x = told(28); x.withdraw(0); return x; };
        Edge.refused(withdrawn, "so already", x -> x.withdraw(0), -3);
        Edge.refused(() -> { WorksCouncil x = withdrawn.make(); x.days(1); return x; }, "so already, of a day ahead", x -> x.withdraw(0), -3);
        Edge.taken(() -> told(29), "the 30th TELLING", x -> x.withdraw(0), 1);
        Edge.refused(() -> told(30), "the 31st", x -> x.withdraw(0), -6);
        Edge.refused(() -> { WorksCouncil x = told(29); x.withdraw(0); return x; }, "-3 ahead of -6", x -> x.withdraw(0), -3);
        Edge.due("a TELLING", withdrawn.make().matterOf(0, 4), 29);
    }

    /** Promise 15. */
    private static void stateRefusals() {
        Edge.says("promise 15: -1; -4; -3 j ahead of its opening, behind K, K behind now");
        Edge.Made made = () -> { WorksCouncil x = Setups.busy(); x.open(2, 1, 0, false); x.days(2); return x; };
        Edge.range(made, "matter", (x, m) -> x.state(m, 3, 3), 0, 6, -1, -1);
        Edge.range(made, "j", (x, j) -> x.state(0, j, 4), 0, 4, -4, -3);
        Edge.range(made, "k", (x, k) -> x.state(0, 0, k), 0, 4, -4, -3);
        Edge.refused(made, "j ahead of its opening", x -> x.state(6, 1, 4), -3);
        Edge.taken(made, "j its opening", x -> x.state(6, 2, 2), 3);
        Edge.refused(made, "j ahead of its opening, k, too", x -> x.state(6, 1, 1), -3);
        Edge.refused(made, "j ahead of its opening, 0", x -> x.state(6, 0, 4), -3);
        Edge.refused(made, "j behind k", x -> x.state(0, 3, 2), -3);
        Edge.taken(made, "j as k", x -> x.state(0, 3, 3), 6);
        Edge.refused(made, "k behind now", x -> x.state(0, 0, 5), -3);
        Edge.refused(made, "-1 ahead of -4", x -> x.state(7, -1, -1), -1);
        Edge.refused(made, "-4 ahead of -3", x -> x.state(6, -1, 5), -4);
        Edge.refused(made, "-4 ahead of -3", x -> x.state(6, 1, -1), -4);
        Edge.leaves(made, "it only tells", x -> x.state(6, 4, 4), 3);
    }

    /** Promise 16. */
    private static void looksAtMatters() {
        Edge.says("promise 16: -1; -2");
        Edge.range(Setups::busy, "matter", (x, m) -> x.matterOf(m, 0), 0, 5, -1, -1);
        Edge.range(Setups::busy, "what", (x, v) -> x.matterOf(0, v), 0, 5, -2, -2);
        Edge.refused(Setups::busy, "-1 ahead of -2", x -> x.matterOf(6, 6), -1);
        int[][] due = {{1, 0, 0, 1, 0, 0}, {2, 0, 0, 0, 1, 1}, {3, 0, 0, 1, 1, 2}, {4, 0, -9, 1, 0, 3}, {0, 0, 0, 1, 0, -9}, {3, 0, 0, 1, 2, 2}};
        for (int m = 0; m < 6; m++) {
            for (int what = 0; what < 6; what++) {
                int of = m;
                int asked = what;
                Edge.leaves(Setups::busy, "matterOf(" + m + ", " + what + ")", x -> x.matterOf(of, asked), due[m][what]);
            }
        }
        Edge.says("promise 16: 4 TELLINGS");
        Edge.due("none", told(0).matterOf(0, 4), 0);
        Edge.due("30", told(30).matterOf(0, 4), 30);
        WorksCouncil x = told(30);
        x.paper(0, 0, true);
        Edge.due("a refused one is none", x.matterOf(0, 4), 30);
        Edge.says("promise 16: 1 the DAY of its opening");
        WorksCouncil y = Setups.kinds();
        y.days(1000);
        y.open(2, 1, 0, false);
        Edge.due("the last day", y.matterOf(0, 1), 1000);
        Edge.due("whole since", y.matterOf(0, 2), 1000);
        Edge.due("its state", y.state(0, 1000, 1000), 3);
    }

    private static void spans() {
        Edge.says("III: if more WORKDAYS than SPAN lie behind that DAY up to j: PASSED, REFUSED; else 3 RUNNING");
        // opened on day 0: 5 workdays lie behind it up to day 7, 6 up to day 8; 30 up to day 42, 31 up to day 43
        int[][] rows = {{0, 0, 0, 1}, {1, 0, 1, 2}, {4, 0, 6, 7}, {5, 0, 7, 8}, {30, 0, 42, 43}, {0, 4, 6, 7}, {0, 5, 6, 7}, {0, 3, 3, 4}};
        for (int[] row : rows) {
            for (int kind = 2; kind <= 4; kind++) {
                WorksCouncil x = running(kind, row[0], row[1]);
                x.days(row[3] - row[1]);
                String of = "kind " + kind + ", span " + row[0] + ", opened on " + row[1] + ", on ";
                Edge.due(of + row[2], x.state(0, row[2], row[3]), 3);
                Edge.due(of + row[3], x.state(0, row[3], row[3]), kind == 2 ? 6 : 7);
                Edge.due(of + row[1], x.state(0, row[1], row[3]), 3);
            }
        }
        Edge.says("III: 6 PASSED by silence (SILENCE), 7 REFUSED by it");
        for (int kind = 2; kind <= 4; kind++) {
            for (int silence = 0; silence < 2; silence++) {
                WorksCouncil x = Setups.kinds();
                x.term(kind, 1, 0);
                x.term(kind, 2, silence);
                x.open(Setups.whatOf(kind), 1, 0, false);
                x.days(1);
                Edge.due("kind " + kind + ", silence " + silence, x.state(0, 1, 1), 7 - silence);
            }
        }
        Edge.says("III: KIND 1: 6; 0 FREE KIND");
        for (int kind = 0; kind < 2; kind++) {
            WorksCouncil x = Setups.kinds();
            x.term(kind, 1, 0);
            x.term(kind, 2, 0);
            x.open(Setups.whatOf(kind), 1, 0, false);
            x.days(9);
            for (int day = 0; day < 10; day += 9) Edge.due("kind " + kind + " on " + day, x.state(0, day, 9), 6 * kind);
        }
        Edge.says("I: a FEAST is known at once, of a DAY gone by, too");
        WorksCouncil x = running(3, 0, 0);
        x.days(2);
        Edge.due("refused on 1", x.state(0, 1, 2), 7);
        x.feast(1);
        Edge.due("running on 1", x.state(0, 1, 2), 3);
        Edge.due("as known on 1, too", x.state(0, 1, 1), 3);
        Edge.due("refused on 2", x.state(0, 2, 2), 7);
        x.feast(0);
        Edge.due("a feast on its opening is not behind it", x.state(0, 2, 2), 7);
        Edge.says("III: behind WHOLE since, not behind the opening");
        WorksCouncil y = Setups.kinds();
        y.term(3, 0, 1);
        y.term(3, 1, 1);
        y.open(2, 1, 0, false);
        y.days(3);
        y.paper(0, 0, true);
        Edge.due("not whole on 2", y.state(0, 2, 3), 2);
        Edge.due("whole since now", y.state(0, 3, 3), 3);
        y.days(4);
        Edge.due("one workday behind it", y.state(0, 4, 7), 3);
        Edge.due("one workday behind it", y.state(0, 6, 7), 3);
        Edge.due("two", y.state(0, 7, 7), 7);
    }

    private static void wholeness() {
        Edge.says("III: the least DAY by which each of its NEEDS was given, of PAPERS that count; the opening's if it has none");
        WorksCouncil x = Setups.kinds();
        x.term(3, 0, 255);
        x.days(1);
        x.open(2, 1, 0, false);
        for (int p = 0; p < 7; p++) x.paper(0, p, true);
        Edge.due("seven of eight", x.matterOf(0, 2), -9);
        Edge.due("seven of eight", x.state(0, 1, 1), 2);
        x.days(1);
        x.paper(0, 7, true);
        Edge.due("all eight", x.matterOf(0, 2), 2);
        Edge.due("all eight", x.state(0, 2, 2), 3);
        Edge.due("the day ahead", x.state(0, 1, 2), 2);
        x.days(1);
        x.paper(0, 0, true);
        Edge.due("given again", x.matterOf(0, 2), 2);
        x.paper(0, 7, false);
        Edge.due("not whole", x.matterOf(0, 2), -9);
        x.paper(0, 7, true);
        Edge.due("given behind it on the same day", x.matterOf(0, 2), 3);
        x.paper(0, 0, false);
        Edge.due("both of paper 0", x.matterOf(0, 2), -9);
        Edge.due("on the day ahead, too", x.state(0, 2, 3), 2);
        Edge.due("not as known then", x.state(0, 2, 2), 3);
        for (int p = 0; p < 8; p++) {
            for (int other = 0; other < 8; other++) {
                WorksCouncil one = Setups.kinds();
                one.term(3, 0, 1 << p);
                one.open(2, 1, 0, false);
                one.paper(0, other, true);
                Edge.due("NEEDS " + p + ", given " + other, one.state(0, 0, 0), p == other ? 3 : 2);
            }
        }
        WorksCouncil y = Setups.kinds();
        y.days(3);
        y.open(2, 1, 0, false);
        Edge.due("none", y.matterOf(0, 2), 3);
        y.days(1);
        y.paper(0, 3, true);
        Edge.due("a paper that it does not need", y.matterOf(0, 2), 3);
        y.withdraw(0);
        Edge.due("by PAPERS alone", y.matterOf(0, 2), 3);
    }

    private static void tellingsByDay() {
        Edge.says("III: by TELLINGS of DAYS not behind j");
        WorksCouncil x = Setups.seated(3);
        for (int i = 0; i < 2; i++) x.open(2, 1, 0, false);
        x.days(1);
        x.session(1, 3);
        x.vote(0, 0, 3);
        x.withdraw(1);
        x.days(1);
        x.board(0, 0, 2, true);
        x.days(1);
        int[] states = {3, 5, 8, 8};
        for (int day = 0; day < 4; day++) Edge.due("matter 0 on " + day, x.state(0, day, 3), states[day]);
        int[] others = {3, 1, 1, 1};
        for (int day = 0; day < 4; day++) Edge.due("matter 1 on " + day, x.state(1, day, 3), others[day]);
        Edge.says("III: of rulings those behind which no FALLEN is told by K");
        x.court(0);
        x.days(1);
        for (int k = 2; k < 5; k++) Edge.due("on 2 as known on " + k, x.state(0, 2, k), k < 3 ? 8 : 5);
        Edge.due("on 3 as known on 3", x.state(0, 3, 3), 5);
        x.board(0, 0, 0, true);
        Edge.due("a ruling behind FALLEN", x.state(0, 4, 4), 9);
        Edge.due("not on the day ahead", x.state(0, 3, 4), 5);
        Edge.says("III: of ANSWERS those whose SESSION is not told VOID by K");
        WorksCouncil y = Setups.seated(3);
        y.open(2, 1, 0, false);
        y.session(0, 1);
        y.vote(0, 1, 0);
        y.days(1);
        y.voids(0);
        y.days(1);
        for (int k = 0; k < 3; k++) Edge.due("on 0 as known on " + k, y.state(0, 0, k), k == 0 ? 4 : 3);
        Edge.says("III: PAPERS not told NOT WHOLE behind their telling by K (on a DAY not behind K)");
        WorksCouncil z = Setups.kinds();
        z.term(3, 0, 1);
        z.open(2, 1, 0, false);
        z.paper(0, 0, true);
        z.days(1);
        z.paper(0, 0, false);
        z.days(1);
        for (int k = 0; k < 3; k++) Edge.due("on 0 as known on " + k, z.state(0, 0, k), k == 0 ? 3 : 2);
        z.paper(0, 0, true);
        z.paper(0, 0, false);
        z.paper(0, 0, true);
        Edge.due("behind NOT WHOLE on the same day", z.state(0, 2, 2), 3);
        Edge.due("on the day ahead", z.state(0, 1, 2), 2);
    }

    /** Which STATE goes ahead of which. */
    private static void stateOrder() {
        Edge.says("III: 0 FREE KIND (and not WITHDRAWN); 1 WITHDRAWN; 8, 9; 4, 5; 2; else WHOLE");
        for (int kind = 0; kind < 5; kind++) {
            for (int state : Setups.statesOf(kind)) {
                WorksCouncil x = Setups.inState(kind, state);
                int now = x.count(0);
                Edge.due("kind " + kind + ", its state", x.state(0, now, now), state);
                if (state == 1) continue;
                x.withdraw(0);
                Edge.due("kind " + kind + ", state " + state + ", withdrawn", x.state(0, now, now), 1);
            }
        }
        WorksCouncil x = Setups.seated(3);
        x.term(3, 0, 1);
        x.open(2, 1, 0, false);
        x.session(0, 7);
        x.vote(0, 0, 7);
        Edge.due("ANSWER ahead of not WHOLE", x.state(0, 0, 0), 5);
        x.board(0, 2, 2, true);
        Edge.due("RULED ahead of ANSWER", x.state(0, 0, 0), 8);
        x.court(0);
        x.board(0, 0, 0, false);
        Edge.due("the last ruling that counts", x.state(0, 0, 0), 9);
        for (int kind = 3; kind <= 4; kind++) {
            for (int yes = 0; yes < 2; yes++) {
                WorksCouncil z = Setups.inState(kind, 7);
                z.board(0, 2, yes, false);
                Edge.due("RULED as the first TELLING", z.state(0, 1, 1), 9 - yes);
                Edge.due("on the day ahead", z.state(0, 0, 1), 3);
                z.court(0);
                Edge.due("FALLEN", z.state(0, 1, 1), 7);
            }
        }
        WorksCouncil y = Setups.seated(3);
        y.open(2, 1, 0, false);
        y.session(0, 1);
        y.vote(0, 1, 0);
        y.voids(0);
        y.session(0, 1);
        y.vote(0, 0, 1);
        Edge.due("the last ANSWER that counts", y.state(0, 0, 0), 5);
        y.voids(1);
        Edge.due("none counts", y.state(0, 0, 0), 3);
    }

    private static void lettings() {
        Edge.says("III, LETS: KIND 0: STATE 0; 1: 6; 2: 4, 5, 6; 3: 4, 6, 8; 4: 2, 3, 4, 6, 8");
        int[][] lets = {{0}, {6}, {4, 5, 6}, {4, 6, 8}, {2, 3, 4, 6, 8}};
        for (int kind = 0; kind < 5; kind++) {
            for (int state : Setups.statesOf(kind)) {
                int want = Setups.isAmong(state, lets[kind]) ? 1 : 0;
                WorksCouncil x = Setups.inState(kind, state);
                Edge.due("kind " + kind + ", state " + state, x.matterOf(0, 3), want);
                x.deed(0, Setups.whatOf(kind), 1, 0);
                Edge.due("a deed on it", x.deedOf(0, 2), want == 1 ? -9 : x.count(0));
            }
        }
    }

    public static void main(String[] args) {
        opening();
        papers();
        withdrawals();
        stateRefusals();
        looksAtMatters();
        spans();
        wholeness();
        tellingsByDay();
        stateOrder();
        lettings();
        Edge.finish("edges of matters");
    }
}
