/** The edges that the document names under VI, and of promises 32 to 36. */
public final class EdgesOfDeeds {
    private EdgesOfDeeds() {
    }

    /** So many deeds on matter 0 of kind 3, shops 0 and 1, sum 100, let by silence on day 1. */
    private static WorksCouncil done(int deeds) {
        WorksCouncil x = Setups.passed(1);
        for (int i = 0; i < deeds; i++) x.deed(0, 2, 1, i);
        return x;
    }

    /** So many amounts of 1 hung on deeds 0 and 1 by turns. */
    private static WorksCouncil hung(int amounts) {
        WorksCouncil x = done(2);
        for (int i = 0; i < amounts; i++) x.hang(i % 2, 1);
        return x;
    }

    /** Matter 0 of kind 3, answered no, with so many tellings. */
    private static WorksCouncil refusedWith(int tellings) {
        WorksCouncil x = Setups.seated(3);
        x.open(2, 1, 0, false);
        for (int i = 1; i < tellings; i++) x.paper(0, 0, true);
        x.session(0, 7);
        x.vote(0, 0, 7);
        return x;
    }

    /** Promise 32. */
    private static void boards() {
        Edge.says("promise 32: -1");
        Edge.Made two = () -> {
            WorksCouncil x = Setups.seated(3);
            for (int i = 0; i < 2; i++) x.open(2, 1, 0, false);
            x.session(0, 7);
            for (int i = 0; i < 2; i++) x.vote(i, 0, 7);
            return x;
        };
        Edge.range(two, "matter", (x, m) -> x.board(m, 0, 0, true), 0, 1, -1, -1);
        Edge.says("promise 32: -4; -6 (firm, council 0 .. 2)");
        Edge.range(two, "firm", (x, v) -> x.board(0, v, 0, true), 0, 2, -4, -6);
        Edge.range(two, "council", (x, v) -> x.board(0, 0, v, true), 0, 2, -4, -6);
        Edge.refused(two, "-4 ahead of -6", x -> x.board(0, 3, -1, true), -4);
        Edge.refused(two, "-4 ahead of -6", x -> x.board(0, -1, 3, true), -4);
        Edge.refused(two, "-1 ahead of -4", x -> x.board(2, -1, -1, true), -1);
        Edge.says("promise 32: -3 KIND, STATE: of KIND 3 or 4 whose STATE now is 5 or 7");
        for (int kind = 0; kind < 5; kind++) {
            for (int state : Setups.statesOf(kind)) {
                int of = kind;
                Edge.Made in = () -> Setups.inState(of, state);
                String call = "kind " + kind + ", state " + state;
                if (kind >= 3 && (state == 5 || state == 7)) {
                    Edge.taken(in, call, x -> x.board(0, 2, 2, true), 1);
                } else {
                    Edge.refused(in, call, x -> x.board(0, 2, 2, true), -3);
                    Edge.refused(in, call + ", -3 ahead of -4", x -> x.board(0, -1, 0, true), -3);
                    Edge.refused(in, call + ", -3 ahead of -6", x -> x.board(0, 0, 3, true), -3);
                }
            }
        }
        Edge.says("VI: RULED yes if 3 or more do, else no");
        for (int firm = 0; firm <= 2; firm++) {
            for (int council = 0; council <= 2; council++) {
                for (int chair = 0; chair < 2; chair++) {
                    WorksCouncil x = two.make();
                    int want = firm + council + chair >= 3 ? 1 : 0;
                    String call = firm + ", " + council + ", " + chair;
                    Edge.due(call, x.board(0, firm, council, chair == 1), want);
                    Edge.due(call + ", state", x.state(0, 0, 0), want == 1 ? 8 : 9);
                }
            }
        }
        Edge.says("promise 32: -6 30 TELLINGS");
        Edge.taken(() -> refusedWith(29), "the 30th", x -> x.board(0, 0, 0, true), 0);
        Edge.refused(() -> refusedWith(30), "the 31st", x -> x.board(0, 0, 0, true), -6);
        Edge.refused(() -> refusedWith(30), "-4 ahead of -6", x -> x.board(0, 0, -1, true), -4);
    }

    /** Promise 33. */
    private static void courts() {
        Edge.says("promise 33: -1; -3 no ruling counts");
        Edge.Made ruled = () -> { WorksCouncil x = refusedWith(1); x.board(0, 2, 2, true); return x; };
        Edge.range(ruled, "matter", (x, m) -> x.court(m), 0, 0, -1, -1);
        for (int kind = 0; kind < 5; kind++) {
            for (int state : Setups.statesOf(kind)) {
                int of = kind;
                Edge.Made in = () -> Setups.inState(of, state);
                if (state >= 8) Edge.taken(in, "kind " + kind + ", state " + state, x -> x.court(0), 1);
                else Edge.refused(in, "kind " + kind + ", state " + state, x -> x.court(0), -3);
            }
        }
        Edge.Made fallen = () -> { WorksCouncil x = ruled.make(); x.court(0); return x; };
        Edge.refused(fallen, "it fell already", x -> x.court(0), -3);
        Edge.due("state", fallen.make().state(0, 0, 0), 5);
        Edge.taken(() -> { WorksCouncil x = fallen.make(); x.board(0, 0, 0, true); return x; }, "the next one", x -> x.court(0), 1);
        Edge.taken(() -> { WorksCouncil x = ruled.make(); x.days(1000); return x; }, "of long ago", x -> x.court(0), 1);
        Edge.says("promise 33: -6 30 TELLINGS");
        Edge.taken(() -> { WorksCouncil x = refusedWith(28); x.board(0, 0, 0, true); return x; }, "the 30th", x -> x.court(0), 1);
        Edge.refused(() -> { WorksCouncil x = refusedWith(29); x.board(0, 0, 0, true); return x; }, "the 31st", x -> x.court(0), -6);
        Edge.refused(() -> refusedWith(30), "-3 ahead of -6", x -> x.court(0), -3);
    }

    /** Promise 34. */
    private static void doing() {
        Edge.says("promise 34: A DEED (matter -1: on none). -1");
        Edge.taken(Setups::busy, "on none", x -> x.deed(-1, 7, 1, 0), 2);
        Edge.refused(Setups::busy, "matter -2", x -> x.deed(-2, 7, 1, 0), -1);
        Edge.refused(Setups::busy, "the least int", x -> x.deed(Integer.MIN_VALUE, 7, 1, 0), -1);
        Edge.taken(Setups::busy, "the first matter", x -> x.deed(0, 0, 1, 0), 2);
        Edge.taken(Setups::busy, "the last matter", x -> x.deed(5, 2, 1, 0), 2);
        Edge.refused(Setups::busy, "one behind it", x -> x.deed(6, 2, 1, 0), -1);
        Edge.refused(Setups::busy, "the greatest int", x -> x.deed(Integer.MAX_VALUE, 2, 1, 0), -1);
        Edge.taken(() -> Setups.passed(40), "the 40th matter", x -> x.deed(39, 2, 1, 0), 0);
        Edge.refused(() -> Setups.passed(40), "the 41st", x -> x.deed(40, 2, 1, 0), -1);
        Edge.says("promise 34: -2 WHAT");
        Edge.range(Setups::busy, "WHAT, on none", (x, v) -> x.deed(-1, v, 1, 0), 0, 7, -2, -2);
        Edge.refused(Setups::busy, "WHAT 8 on a matter", x -> x.deed(0, 8, 1, 0), -2);
        Edge.refused(Setups::busy, "WHAT -1 on a matter", x -> x.deed(0, -1, 1, 0), -2);
        Edge.says("promise 34: -3 its matter is of another WHAT");
        for (int what = 0; what < 8; what++) {
            int of = what;
            if (what == 2) Edge.taken(Setups::busy, "WHAT " + what, x -> x.deed(2, of, 1, 0), 2);
            else Edge.refused(Setups::busy, "WHAT " + what, x -> x.deed(2, of, 1, 0), -3);
        }
        Edge.says("promise 34: -4 SHOPS below 1, SUM; -6");
        Edge.range(Setups::busy, "shops, on none", (x, v) -> x.deed(-1, 2, v, 0), 1, 63, -4, -6);
        Edge.range(Setups::busy, "shops, on a matter", (x, v) -> x.deed(2, 2, v, 0), 1, 63, -4, -6);
        Edge.range(Setups::busy, "sum, on none", (x, v) -> x.deed(-1, 2, 1, v), 0, 9999, -4, -6);
        Edge.range(Setups::busy, "sum, on a matter", (x, v) -> x.deed(2, 2, 1, v), 0, 9999, -4, -6);
        Edge.says("promise 34: the first that fits in the order told");
        Edge.refused(Setups::busy, "-1 ahead of -2", x -> x.deed(6, 8, 0, -1), -1);
        Edge.refused(Setups::busy, "-2 ahead of -3 and -4", x -> x.deed(2, 8, 0, -1), -2);
        Edge.refused(Setups::busy, "-3 ahead of -4", x -> x.deed(2, 3, 0, -1), -3);
        Edge.refused(Setups::busy, "-3 ahead of -6", x -> x.deed(2, 3, 64, 10000), -3);
        Edge.refused(Setups::busy, "-4 ahead of -6", x -> x.deed(2, 2, 0, 10000), -4);
        Edge.refused(Setups::busy, "-4 ahead of -6", x -> x.deed(2, 2, 64, -1), -4);
        Edge.says("VI: DEEDS have numbers from 0 on (60 at most); promise 34: -6 60, too");
        Edge.taken(() -> done(0), "the first", x -> x.deed(0, 2, 1, 0), 0);
        Edge.taken(() -> done(59), "the 60th", x -> x.deed(-1, 2, 1, 0), 59);
        Edge.refused(() -> done(60), "the 61st", x -> x.deed(0, 2, 1, 0), -6);
        Edge.refused(() -> done(60), "the 61st, on none", x -> x.deed(-1, 2, 1, 0), -6);
        Edge.refused(() -> done(60), "-4 ahead of -6", x -> x.deed(0, 2, 0, 0), -4);
        Edge.refused(() -> done(60), "-3 ahead of -6", x -> x.deed(0, 1, 1, 0), -3);
    }

    /** Promise 35. */
    private static void looks() {
        Edge.says("promise 35: refused as told: -1; -2");
        Edge.rangeFar(Setups::busy, "deed", (x, d) -> x.deedOf(d, 0), 0, 1, -1, -1);
        Edge.rangeFar(() -> done(60), "deed", (x, d) -> x.deedOf(d, 4), 0, 59, -1, -1);
        Edge.rangeFar(Setups::busy, "what", (x, v) -> x.deedOf(1, v), 0, 4, -2, -2);
        Edge.refusedFar(Setups::busy, "-1 ahead of -2", x -> x.deedOf(2, 5), -1);
        Edge.due("-1 as", new WorksCouncil().deedOf(0, 0), 1000000001);
        Edge.due("-2 as", done(1).deedOf(0, 5), 1000000002);
        int[][] due = {{3, 0, -9, 5, 0}, {-1, 0, 0, 7, 7}};
        for (int d = 0; d < 2; d++) {
            for (int what = 0; what < 5; what++) {
                int of = d;
                int asked = what;
                Edge.leaves(Setups::busy, "deedOf(" + d + ", " + what + ")", x -> x.deedOf(of, asked), due[d][what]);
            }
        }
        Edge.says("promise 35: 0 matter (-1), 1 DAY");
        WorksCouncil x = done(0);
        x.days(999);
        x.deed(-1, 2, 1, 0);
        Edge.due("on none", x.deedOf(0, 0), -1);
        Edge.due("the last DAY", x.deedOf(0, 1), 1000);
        Edge.due("VOID SINCE it", x.deedOf(0, 2), 1000);
        x.hang(0, 3);
        Edge.due("LOST: hung on it", x.deedOf(0, 4), 3);
        Edge.due("the 60th's SUM", done(60).deedOf(59, 2), -9);
    }

    private static int voidSince(WorksCouncil x, int matter, int what, int shops, int sum) {
        int deed = x.deed(matter, what, shops, sum);
        return x.deedOf(deed, 2);
    }

    private static void bounds() {
        Edge.says("VI: of one with a SHOP that is none of its matter's: its DAY");
        int[][] shops = {{1, -9}, {2, -9}, {3, -9}, {4, 1}, {5, 1}, {7, 1}, {32, 1}, {63, 1}};
        for (int[] row : shops) Edge.due("SHOPS " + row[0], voidSince(done(0), 0, 2, row[0], 0), row[1]);
        Edge.says("VI: or whose SUM is above that one's: its DAY");
        int[][] sums = {{0, -9}, {99, -9}, {100, -9}, {101, 1}, {9999, 1}};
        for (int[] row : sums) Edge.due("SUM " + row[0], voidSince(done(0), 0, 2, 3, row[0]), row[1]);
        WorksCouncil most = Setups.kinds();
        most.open(0, 63, 9999, false);
        Edge.due("the greatest SUM, all SHOPS", voidSince(most, 0, 0, 63, 9999), -9);
        Edge.says("VI: of one on none: its DAY, if KIND (URGENT not told) was above 0 as it was done");
        WorksCouncil x = new WorksCouncil();
        for (int kind = 0; kind < 5; kind++) Setups.act(x, (char) ('A' + kind) + "" + kind + ":u=0&m<5&s=1", 0);
        Setups.act(x, "H4:u=1", 0);
        for (int kind = 0; kind < 5; kind++) Edge.due("KIND " + kind, voidSince(x, -1, kind, 1, 4), kind == 0 ? -9 : 0);
        Edge.due("no ACT", voidSince(x, -1, 6, 1, 4), -9);
        Edge.due("of URGENT ones alone", voidSince(x, -1, 7, 1, 4), -9);
        Edge.due("of lesser SUMS alone", voidSince(x, -1, 2, 1, 5), -9);
        Edge.due("of one SHOP alone", voidSince(x, -1, 2, 3, 4), -9);
        x.strike(3, 0);
        Edge.due("as it was done", x.deedOf(3, 2), 0);
        Edge.due("KIND 0 now", voidSince(x, -1, 3, 1, 4), -9);
        Setups.act(x, "G1:1>0", 0);
        Edge.due("as it was done", x.deedOf(5, 2), -9);
        Edge.due("the count of VOID ones", x.count(8), 4);
    }

    private static void daysOfVoid() {
        Edge.says("VI: else the first DAY, from its own on (KIND 4: up to now; others: that one alone)");
        for (int kind = 0; kind < 5; kind++) {
            WorksCouncil x = Setups.kinds();
            x.term(kind, 1, 30);
            x.days(1);
            x.open(Setups.whatOf(kind), 1, 0, false);
            Edge.due("kind " + kind + ", done", x.deed(0, Setups.whatOf(kind), 1, 0), 0);
            int atFirst = kind == 2 || kind == 3 ? 1 : -9;
            Edge.due("kind " + kind + ", void since", x.deedOf(0, 2), atFirst);
            x.days(2);
            x.withdraw(0);
            Edge.due("kind " + kind + ", withdrawn on 3", x.deedOf(0, 2), kind == 4 ? 3 : atFirst);
            x.days(7);
            Edge.due("kind " + kind + ", on 10", x.deedOf(0, 2), kind == 4 ? 3 : atFirst);
            x.deed(0, Setups.whatOf(kind), 1, 0);
            Edge.due("kind " + kind + ", done on 10", x.deedOf(1, 2), 10);
        }
        WorksCouncil x = Setups.kinds();
        x.term(4, 1, 0);
        x.days(999);
        x.open(3, 1, 0, false);
        x.deed(0, 3, 1, 0);
        x.days(1);
        Edge.due("999 and 1000 are no workdays", x.deedOf(0, 2), -9);
        WorksCouncil y = Setups.kinds();
        y.term(4, 1, 0);
        y.days(996);
        y.open(3, 1, 0, false);
        y.deed(0, 3, 1, 0);
        y.days(1);
        Edge.due("997, the last but three", y.deedOf(0, 2), 997);
        y.days(3);
        Edge.due("on 1000", y.deedOf(0, 2), 997);
        y.feast(997);
        Edge.due("a feast: 998", y.deedOf(0, 2), 998);
        y.feast(998);
        Edge.due("a feast: never", y.deedOf(0, 2), -9);
        for (int opened = 0; opened < 2; opened++) {
            WorksCouncil w = Setups.kinds();
            if (opened > 0) w.days(opened);
            w.term(4, 1, 1);
            w.open(3, 1, 0, false);
            w.deed(0, 3, 1, 0);
            w.days(1);
            Edge.due("opened on " + opened + ", running", w.deedOf(0, 2), -9);
            w.days(1);
            Edge.due("refused by silence", w.deedOf(0, 2), opened + 2);
            w.days(9);
            Edge.due("the first of many days", w.deedOf(0, 2), opened + 2);
            Edge.due("VOID ones", w.count(8), 1);
        }
        WorksCouncil yes = Setups.seated(3);
        yes.term(4, 1, 1);
        yes.open(3, 1, 0, false);
        yes.deed(0, 3, 1, 0);
        yes.session(0, 7);
        yes.vote(0, 7, 0);
        yes.days(9);
        yes.withdraw(0);
        Edge.due("answered yes, no silence, withdrawn on 9", yes.deedOf(0, 2), 9);
        WorksCouncil full = Setups.kinds();
        full.term(4, 0, 1);
        full.open(3, 1, 0, false);
        full.deed(0, 3, 1, 0);
        for (int i = 0; i < 29; i++) {
            full.paper(0, 1, true);
            full.days(1);
        }
        full.withdraw(0);
        full.days(1);
        Edge.due("30 TELLINGS on 30 days, the last one", full.deedOf(0, 2), 29);
        Edge.says("VI: STATE as known now");
        WorksCouncil z = Setups.seated(3);
        z.term(4, 1, 30);
        z.open(3, 1, 0, false);
        z.session(0, 1);
        z.days(1);
        z.deed(0, 3, 1, 0);
        z.session(0, 1);
        z.vote(0, 0, 1);
        Edge.due("answered no on 1", z.deedOf(0, 2), 1);
        z.days(1);
        z.voids(1);
        Edge.due("its SESSION was VOID", z.deedOf(0, 2), -9);
        z.session(2, 7);
        z.vote(0, 0, 7);
        z.days(1);
        Edge.due("answered no on 2", z.deedOf(0, 2), 2);
        z.board(0, 2, 2, true);
        Edge.due("ruled yes on 3", z.deedOf(0, 2), 2);
        Edge.due("done on 3", voidSince(z, 0, 3, 1, 0), -9);
        z.days(1);
        z.court(0);
        Edge.due("it fell: void since 3", z.deedOf(1, 2), 3);
    }

    /** Promise 36. */
    private static void hanging() {
        Edge.says("promise 36: -1; -4; -6: amounts (1 .. 9999)");
        Edge.range(Setups::busy, "deed", (x, d) -> x.hang(d, 1), 0, 1, -1, -1);
        Edge.range(() -> done(60), "deed", (x, d) -> x.hang(d, 1), 0, 59, -1, -1);
        Edge.range(Setups::busy, "amount", (x, v) -> x.hang(0, v), 1, 9999, -4, -6);
        Edge.refused(Setups::busy, "-1 ahead of -4", x -> x.hang(2, 0), -1);
        Edge.refused(Setups::busy, "-1 ahead of -6", x -> x.hang(-1, 10000), -1);
        Edge.says("promise 36: how many there are of it");
        Edge.taken(Setups::busy, "the second", x -> x.hang(0, 1), 2);
        Edge.taken(() -> done(1), "the first", x -> x.hang(0, 9999), 1);
        Edge.says("VI: 100 on all DEEDS together; promise 36: -6 100 in all, too");
        Edge.taken(() -> hung(99), "the 100th", x -> x.hang(1, 1), 50);
        Edge.refused(() -> hung(100), "the 101st", x -> x.hang(0, 1), -6);
        Edge.refused(() -> hung(100), "the 101st", x -> x.hang(1, 1), -6);
        Edge.refused(() -> hung(100), "-4 ahead of -6", x -> x.hang(1, 0), -4);
        Edge.refused(() -> hung(100), "-1 ahead of -6", x -> x.hang(2, 1), -1);
        WorksCouncil x = done(1);
        for (int i = 1; i <= 100; i++) Edge.due("hang " + i, x.hang(0, 9999), i);
        Edge.due("all of the greatest", x.deedOf(0, 3), 999900);
        Edge.says("VI: LOST: those on its VOID DAY or behind it");
        WorksCouncil y = Setups.seated(3);
        y.open(3, 1, 0, false);
        y.deed(0, 3, 1, 0);
        for (int i = 0; i < 4; i++) {
            y.hang(0, 1 << i);
            y.days(1);
        }
        y.hang(0, 16);
        Edge.due("not VOID: none", y.deedOf(0, 4), 0);
        WorksCouncil z = Setups.seated(3);
        z.open(3, 1, 0, false);
        z.deed(0, 3, 1, 0);
        for (int day = 0; day < 4; day++) {
            z.hang(0, 1 << day);
            if (day == 2) z.withdraw(0);
            z.days(1);
        }
        Edge.due("VOID SINCE 2", z.deedOf(0, 2), 2);
        Edge.due("all that is HUNG", z.deedOf(0, 3), 15);
        Edge.due("LOST: of 2 and 3", z.deedOf(0, 4), 12);
        z.hang(0, 16);
        Edge.due("LOST: now, too", z.deedOf(0, 4), 28);
        WorksCouncil w = done(0);
        w.deed(0, 2, 4, 0);
        w.hang(0, 5);
        Edge.due("VOID SINCE its DAY: all", w.deedOf(0, 4), 5);
    }

    public static void main(String[] args) {
        boards();
        courts();
        doing();
        looks();
        bounds();
        daysOfVoid();
        hanging();
        Edge.finish("edges of deeds");
    }
}
