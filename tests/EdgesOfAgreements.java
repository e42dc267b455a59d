/** The edges that the document names under V, and of promises 26 to 31. */
public final class EdgesOfAgreements {
    private EdgesOfAgreements() {
    }

    /** So many agreements, each of a matter of its own, on day 1, without an end; one matter more that could have one. */
    private static WorksCouncil agreed(int n) {
        WorksCouncil x = Setups.passed(n + 1);
        for (int i = 0; i < n; i++) x.agree(i, i, 1, -1);
        return x;
    }

    /** Agreement 0 of the value 50 from day 5 to day 10, made on day 1, of shops 0 and 1. */
    private static WorksCouncil fiveToTen() {
        WorksCouncil x = Setups.passed(4);
        x.agree(0, 50, 5, 10);
        return x;
    }

    /** Promise 26. */
    private static void agreeing() {
        Edge.says("promise 26: -1; -4; -6: VALUE 0 .. 9999, from now on, to not ahead of that");
        Edge.range(() -> Setups.passed(40), "matter", (x, m) -> x.agree(m, 0, 1, 1), 0, 39, -1, -1);
        Edge.range(() -> Setups.passed(1), "value", (x, v) -> x.agree(0, v, 1, -1), 0, 9999, -4, -6);
        Edge.range(() -> Setups.passed(1), "from", (x, v) -> x.agree(0, 0, v, -1), 1, 1000, -4, -6);
        Edge.range(() -> Setups.passed(1), "from, to 1000", (x, v) -> x.agree(0, 0, v, v > 1000 ? -1 : 1000), 1, 1000, -4, -6);
        Edge.range(() -> Setups.passed(1), "to, from 7", (x, v) -> x.agree(0, 0, 7, v), 7, 1000, -4, -6);
        Edge.range(() -> Setups.passed(1), "to, from 1000", (x, v) -> x.agree(0, 0, 1000, v), 1000, 1000, -4, -6);
        Edge.says("V: or -1: none");
        Edge.taken(() -> Setups.passed(1), "to -1", x -> x.agree(0, 0, 1, -1), 0);
        Edge.refused(() -> Setups.passed(1), "to -2", x -> x.agree(0, 0, 1, -2), -4);
        Edge.refused(() -> Setups.passed(1), "to 0, ahead of from", x -> x.agree(0, 0, 1, 0), -4);
        Edge.refused(() -> Setups.passed(1), "-4 ahead of -6", x -> x.agree(0, -1, 1001, 1001), -4);
        Edge.refused(() -> Setups.passed(1), "-4 ahead of -6", x -> x.agree(0, 10000, 0, 1001), -4);
        Edge.refused(() -> Setups.passed(1), "-4 ahead of -6", x -> x.agree(0, 10000, 5, 4), -4);
        Edge.says("promise 26: -3 KIND, STATE: of KIND 3 whose STATE now is 4, 6 or 8");
        for (int kind = 0; kind < 5; kind++) {
            for (int state : Setups.statesOf(kind)) {
                int of = kind;
                Edge.Made in = () -> Setups.inState(of, state);
                String call = "kind " + kind + ", state " + state;
                if (kind == 3 && Setups.isAmong(state, 4, 6, 8)) Edge.taken(in, call, x -> x.agree(0, 0, 1, -1), 0);
                else Edge.refused(in, call, x -> x.agree(0, 0, 1, -1), -3);
                if (kind != 3) Edge.refused(in, call + ", -3 ahead of -4", x -> x.agree(0, -1, -1, -2), -3);
            }
        }
        Edge.says("promise 26: -3 it has one (one each ever)");
        Edge.refused(() -> agreed(1), "it has one", x -> x.agree(0, 0, 1, -1), -3);
        Edge.refused(() -> agreed(1), "-3 ahead of -4", x -> x.agree(0, -1, 1, -1), -3);
        Edge.refused(() -> agreed(1), "-3 ahead of -6", x -> x.agree(0, 10000, 1, -1), -3);
        Edge.refused(() -> agreed(1), "-1 ahead of -3", x -> x.agree(2, 0, 1, -1), -1);
        Edge.refused(() -> { WorksCouncil x = agreed(1); x.cancel(0); x.days(99); return x; }, "one that has ended", x -> x.agree(0, 0, 100, -1), -3);
        Edge.says("V: AGREEMENTS have numbers from 0 on (30 at most); promise 26: -6 30, too");
        Edge.taken(() -> agreed(0), "the first", x -> x.agree(0, 0, 1, -1), 0);
        Edge.taken(() -> agreed(29), "the 30th", x -> x.agree(29, 0, 1, -1), 29);
        Edge.refused(() -> agreed(30), "the 31st", x -> x.agree(30, 0, 1, -1), -6);
        Edge.refused(() -> agreed(30), "-4 ahead of -6", x -> x.agree(30, 0, 0, -1), -4);
        Edge.refused(() -> agreed(30), "-3 ahead of -6", x -> x.agree(29, 0, 1, -1), -3);
        Edge.due("all hold", agreed(30).count(6), 30);
        Edge.due("the 30th's value", agreed(30).agreementOf(29, 1), 29);
        Edge.due("the 30th's worth", agreed(30).worth(0, 2, 1, 1), 29);
    }

    /** Promise 27. */
    private static void cancelling() {
        Edge.says("promise 27: -1; -3 told so");
        Edge.range(() -> agreed(30), "agreement", (x, a) -> x.cancel(a), 0, 29, -1, -1);
        Edge.range(Setups::busy, "agreement", (x, a) -> x.cancel(a), 0, 1, -1, -1);
        Edge.Made told = () -> { WorksCouncil x = agreed(1); x.cancel(0); return x; };
        Edge.refused(told, "told so", x -> x.cancel(0), -3);
        Edge.refused(() -> { WorksCouncil x = told.make(); x.days(99); return x; }, "told so, behind its end", x -> x.cancel(0), -3);
        Edge.says("V: it ends with the DAY now and TERM (0 .. 200; 30 at first), if not sooner");
        Edge.taken(() -> agreed(1), "30 at first", x -> x.cancel(0), 31);
        Edge.taken(() -> { WorksCouncil x = agreed(1); x.set(1, 0); return x; }, "TERM 0", x -> x.cancel(0), 1);
        Edge.taken(() -> { WorksCouncil x = agreed(1); x.set(1, 200); return x; }, "TERM 200", x -> x.cancel(0), 201);
        Edge.taken(() -> { WorksCouncil x = agreed(1); x.days(999); x.set(1, 200); return x; }, "on day 1000", x -> x.cancel(0), 1200);
        for (int term = 8; term <= 10; term++) {
            int of = term;
            Edge.Made made = () -> { WorksCouncil x = fiveToTen(); x.set(1, of); return x; };
            Edge.taken(made, "to 10, TERM " + term, x -> x.cancel(0), Math.min(10, 1 + term));
            WorksCouncil x = made.make();
            x.cancel(0);
            Edge.due("the DAY with which it ends", x.agreementOf(0, 3), Math.min(10, 1 + term));
            x.set(1, 0);
            Edge.due("TERM as it was then", x.agreementOf(0, 3), Math.min(10, 1 + term));
        }
        WorksCouncil x = fiveToTen();
        x.days(50);
        Edge.due("one that has ended", x.cancel(0), 10);
        Edge.due("once", x.cancel(0), -3);
    }

    /** Promise 28. */
    private static void looks() {
        Edge.says("promise 28: -1; -2");
        Edge.range(Setups::busy, "agreement", (x, a) -> x.agreementOf(a, 0), 0, 1, -1, -1);
        Edge.range(() -> agreed(30), "agreement", (x, a) -> x.agreementOf(a, 4), 0, 29, -1, -1);
        Edge.range(Setups::busy, "what", (x, v) -> x.agreementOf(0, v), 0, 4, -2, -2);
        Edge.refused(Setups::busy, "-1 ahead of -2", x -> x.agreementOf(2, 5), -1);
        int[][] due = {{2, 70, 0, 40, 1}, {5, 90, 3, 1000000, 1}};
        for (int a = 0; a < 2; a++) {
            for (int what = 0; what < 5; what++) {
                int of = a;
                int asked = what;
                Edge.leaves(Setups::busy, "agreementOf(" + a + ", " + what + ")", x -> x.agreementOf(of, asked), due[a][what]);
            }
        }
        WorksCouncil x = Setups.passed(3);
        x.agree(2, 9999, 1000, 1000);
        x.agree(1, 0, 1, -1);
        Edge.due("matter", x.agreementOf(0, 0), 2);
        Edge.due("the greatest VALUE", x.agreementOf(0, 1), 9999);
        Edge.due("from the last day", x.agreementOf(0, 2), 1000);
        Edge.due("to the last day", x.agreementOf(0, 3), 1000);
        Edge.due("the least VALUE", x.agreementOf(1, 1), 0);
        Edge.due("none: 1000000", x.agreementOf(1, 3), 1000000);
        x.days(999);
        Edge.due("none: 1000000", x.agreementOf(1, 3), 1000000);
    }

    private static void holding() {
        Edge.says("V: it HOLDS if the STATE of its matter on the DAY it was made, as known now, is 4, 6 or 8");
        WorksCouncil x = agreed(3);
        x.withdraw(0);
        Edge.due("withdrawn on that day", x.agreementOf(0, 4), 0);
        x.days(1);
        x.withdraw(1);
        Edge.due("withdrawn on the day behind it", x.agreementOf(1, 4), 1);
        Edge.due("two hold", x.count(6), 2);
        x.feast(1);
        Edge.due("not passed by then: a feast told later", x.agreementOf(2, 4), 0);
        Edge.due("nor the other one", x.agreementOf(1, 4), 0);
        Edge.due("none holds", x.count(6), 0);
        Edge.due("none is in force", x.worth(0, 2, 2, 1), -9);
        WorksCouncil y = Setups.seated(3);
        for (int i = 0; i < 2; i++) y.open(2, 1, 0, false);
        y.session(0, 1);
        y.vote(0, 1, 0);
        y.vote(1, 0, 1);
        y.board(1, 2, 2, true);
        for (int i = 0; i < 2; i++) y.agree(i, 5 + i, 0, -1);
        Edge.due("both hold", y.count(6), 2);
        y.days(1);
        y.court(1);
        Edge.due("its ruling fell", y.agreementOf(1, 4), 0);
        Edge.due("the other one", y.agreementOf(0, 4), 1);
        y.voids(0);
        Edge.due("its session was void", y.agreementOf(0, 4), 0);
        Edge.due("it was told: no other one", y.agree(0, 1, 1, -1), -3);
        y.session(1, 7);
        y.vote(0, 7, 0);
        Edge.due("answered yes too late", y.agreementOf(0, 4), 0);
    }

    /** Promise 29. */
    private static void contracts() {
        Edge.says("promise 29: refused as told: -2 WHAT, let; -4; -6");
        Edge.rangeFar(Setups::busy, "WHAT", (x, v) -> x.contract(v, 0, 0), 0, 7, -2, -2);
        Edge.rangeFar(Setups::busy, "let", (x, v) -> x.contract(0, 0, v), 0, 2, -2, -2);
        Edge.rangeFar(Setups::busy, "let, with -1", (x, v) -> x.contract(2, -1, v), 0, 2, -2, -2);
        Edge.rangeFar(Setups::busy, "value", (x, v) -> x.contract(2, v, 0), -1, 9999, -4, -6);
        Edge.refusedFar(Setups::busy, "-2 ahead of -4", x -> x.contract(8, -2, 0), -2);
        Edge.refusedFar(Setups::busy, "-2 ahead of -6", x -> x.contract(2, 10000, 3), -2);
        Edge.due("-2 as", new WorksCouncil().contract(8, 0, 0), 1000000002);
        Edge.due("-4 as", new WorksCouncil().contract(0, -2, 0), 1000000004);
        Edge.due("-6 as", new WorksCouncil().contract(0, 10000, 0), 1000000006);
        Edge.says("promise 29: what its VALUE was (-1 none)");
        Edge.taken(Setups::empty, "none yet", x -> x.contract(7, 9999, 2), -1);
        Edge.taken(Setups::busy, "80", x -> x.contract(2, 0, 0), 80);
        Edge.taken(Setups::busy, "another's", x -> x.contract(3, 0, 0), -1);
        WorksCouncil x = new WorksCouncil();
        x.contract(0, 0, 0);
        Edge.due("a VALUE of 0", x.contract(0, 9999, 0), 0);
        Edge.due("a VALUE of 9999", x.contract(0, -1, 2), 9999);
        Edge.due("none any more", x.contract(0, -1, 1), -1);
        Edge.due("none any more", x.worth(0, 0, 0, 0), -9);
    }

    /** Promise 30. */
    private static void afters() {
        Edge.says("promise 30: AFTER of a WHAT, or not: 1; 0 it was so. -2");
        Edge.range(Setups::busy, "WHAT", (x, v) -> x.after(v, true), 0, 7, -2, -2);
        Edge.range(Setups::busy, "WHAT, not", (x, v) -> x.after(v, false), 0, 7, -2, -2);
        Edge.leaves(Setups::busy, "it was not", x -> x.after(2, false), 0);
        Edge.taken(Setups::busy, "it was not", x -> x.after(2, true), 1);
        Edge.Made on = () -> { WorksCouncil x = Setups.busy(); x.after(2, true); return x; };
        Edge.leaves(on, "it was so", x -> x.after(2, true), 0);
        Edge.taken(on, "it was so", x -> x.after(2, false), 1);
        Edge.leaves(on, "another one was not", x -> x.after(3, false), 0);
    }

    /** Promise 31. */
    private static void worthRefusals() {
        Edge.says("promise 31: -1 SHOP; -2; -4; -6 DAY");
        Edge.range(Setups::busy, "shop", (x, v) -> x.worth(v, 2, 0, 0), 0, 5, -1, -1);
        Edge.range(Setups::busy, "WHAT", (x, v) -> x.worth(0, v, 0, 0), 0, 7, -2, -2);
        Edge.range(Setups::busy, "what", (x, v) -> x.worth(0, 2, 0, v), 0, 1, -2, -2);
        Edge.range(Setups::busy, "day", (x, v) -> x.worth(0, 2, v, 0), 0, 1000, -4, -6);
        Edge.refused(Setups::busy, "-1 ahead of -2", x -> x.worth(6, 8, -1, 2), -1);
        Edge.refused(Setups::busy, "-2 ahead of -4", x -> x.worth(0, 8, -1, 0), -2);
        Edge.refused(Setups::busy, "-2 ahead of -6", x -> x.worth(0, 0, 1001, 2), -2);
        Edge.leaves(Setups::busy, "it only tells", x -> x.worth(0, 2, 2, 0), 80);
        Edge.leaves(Setups::busy, "it only tells", x -> x.worth(0, 2, 3, 0), 90);
        Edge.leaves(Setups::busy, "it only tells", x -> x.worth(0, 2, 3, 1), 1);
    }

    private static void worthRow(String call, WorksCouncil x, int shop, int[][] rows) {
        for (int[] row : rows) Edge.due(call + ", on " + row[0], x.worth(shop, 2, row[0], 1), row[1]);
    }

    private static void worths() {
        Edge.says("V: in force on the DAY (both ends included)");
        WorksCouncil x = fiveToTen();
        worthRow("five to ten", x, 0, new int[][] {{0, -9}, {4, -9}, {5, 0}, {10, 0}, {11, -9}, {1000, -9}});
        Edge.says("V: of that WHAT and SHOP");
        Edge.due("another SHOP of it", x.worth(1, 2, 5, 0), 50);
        Edge.due("no SHOP of it", x.worth(2, 2, 5, 0), -9);
        Edge.due("another WHAT", x.worth(0, 3, 5, 0), -9);
        Edge.says("V: the one from the latest DAY on, of several the greatest number");
        x.agree(1, 60, 7, 8);
        x.agree(2, 40, 5, 9);
        worthRow("three", x, 0, new int[][] {{4, -9}, {5, 2}, {6, 2}, {7, 1}, {8, 1}, {9, 2}, {10, 0}, {11, -9}});
        Edge.says("V: if AFTER is told for the WHAT: that were in force on some DAY and ended ahead of this one, the one that ended last");
        x.after(3, true);
        Edge.due("AFTER of another WHAT", x.worth(0, 2, 11, 1), -9);
        x.after(2, true);
        worthRow("AFTER", x, 0, new int[][] {{4, -9}, {5, 2}, {10, 0}, {11, 0}, {1000, 0}});
        Edge.due("AFTER, another SHOP of it", x.worth(1, 2, 11, 1), 0);
        Edge.due("AFTER, no SHOP of it", x.worth(2, 2, 11, 1), -9);
        x.agree(3, 30, 10, 10);
        worthRow("of several the greatest number", x, 0, new int[][] {{9, 2}, {10, 3}, {11, 3}, {1000, 3}});
        x.set(1, 8);
        x.cancel(3);
        worthRow("never in force: it ended on 9, from 10 on", x, 0, new int[][] {{10, 0}, {11, 0}});
        WorksCouncil y = Setups.passed(2);
        y.after(2, true);
        y.agree(0, 50, 5, -1);
        y.set(1, 4);
        y.cancel(0);
        worthRow("in force on one day", y, 0, new int[][] {{4, -9}, {5, 0}, {6, 0}});
        y.agree(1, 50, 6, -1);
        y.cancel(1);
        worthRow("the other one on none", y, 0, new int[][] {{5, 0}, {6, 0}, {7, 0}});
        WorksCouncil v = Setups.inState(3, 4);
        v.after(2, true);
        v.days(1);
        Edge.due("AFTER, none yet", v.worth(0, 2, 1, 1), -9);
        Edge.due("AFTER, none yet", v.worth(0, 2, 1, 0), -9);
        WorksCouncil u = Setups.passed(3);
        u.after(2, true);
        u.agree(0, 50, 1, 2);
        u.agree(1, 60, 1, 4);
        u.agree(2, 70, 1, 3);
        worthRow("AFTER of three, the last to end", u, 0, new int[][] {{4, 1}, {5, 1}});
        u.withdraw(1);
        worthRow("one that does not hold ahead of one that does", u, 0, new int[][] {{4, 2}, {5, 2}});
        u.withdraw(0);
        worthRow("two that do not", u, 0, new int[][] {{1, 2}, {4, 2}, {5, 2}});
        Edge.says("V: of AGREEMENTS that HOLD");
        y.withdraw(0);
        worthRow("it holds no more", y, 0, new int[][] {{5, -9}, {6, -9}});
        WorksCouncil z = agreed(30);
        Edge.due("of 30 the greatest number", z.worth(0, 2, 1000, 1), 29);
        z.withdraw(29);
        Edge.due("which holds", z.worth(0, 2, 1000, 1), 28);
    }

    private static void worthsByContract() {
        Edge.says("V: LET 0: its VALUE; 1: the greater of it and a's; 2: a's, without a its own; without a CONTRACT a's; -9 without");
        // value of the contract, let, worth on 5 (with a of 50) and on 11 (without)
        int[][] rows = {{-1, 0, 50, -9}, {-1, 1, 50, -9}, {-1, 2, 50, -9}, {49, 0, 49, 49}, {51, 0, 51, 51}, {49, 1, 50, 49},
            {50, 1, 50, 50}, {51, 1, 51, 51}, {49, 2, 50, 49}, {51, 2, 50, 51}, {0, 0, 0, 0}, {0, 1, 50, 0}, {0, 2, 50, 0},
            {9999, 0, 9999, 9999}, {9999, 1, 9999, 9999}, {9999, 2, 50, 9999}};
        for (int[] row : rows) {
            WorksCouncil x = fiveToTen();
            x.contract(2, row[0], row[1]);
            String call = "contract " + row[0] + ", let " + row[1];
            Edge.due(call + ", with a", x.worth(0, 2, 5, 0), row[2]);
            Edge.due(call + ", without", x.worth(0, 2, 11, 0), row[3]);
            Edge.due(call + ", a", x.worth(0, 2, 5, 1), 0);
            Edge.due(call + ", none", x.worth(0, 2, 11, 1), -9);
            x.after(2, true);
            Edge.due(call + ", AFTER", x.worth(0, 2, 11, 0), row[2]);
            Edge.due(call + ", of another WHAT", x.worth(0, 1, 5, 0), -9);
        }
        WorksCouncil x = Setups.passed(1);
        x.agree(0, 0, 1, -1);
        Edge.due("a's VALUE of 0", x.worth(0, 2, 1, 0), 0);
        x.contract(2, 3, 2);
        Edge.due("a's VALUE of 0, let 2", x.worth(0, 2, 1, 0), 0);
        x.contract(2, 3, 0);
        Edge.due("told anew: let 0", x.worth(0, 2, 1, 0), 3);
    }

    public static void main(String[] args) {
        agreeing();
        cancelling();
        looks();
        holding();
        contracts();
        afters();
        worthRefusals();
        worths();
        worthsByContract();
        Edge.finish("edges of agreements");
    }
}
