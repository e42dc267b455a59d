/** The edges that the document names under I, and of promises 1 to 6. */
public final class EdgesOfDays {
    private EdgesOfDays() {
    }

    private static WorksCouncil onDay(int day) {
        WorksCouncil x = new WorksCouncil();
        if (day > 0) x.days(day);
        return x;
    }

    private static WorksCouncil people(int n) {
        WorksCouncil x = new WorksCouncil();
        for (int i = 0; i < n; i++) x.person(i % 6, -9000 - i, 0, 0, 0);
        return x;
    }

    /** Promise 1. */
    private static void nothingThereYet() {
        WorksCouncil x = new WorksCouncil();
        Edge.says("promise 1: DAY 0; nothing");
        for (int what = 0; what <= 16; what++) Edge.due("count(" + what + ")", x.count(what), 0);
        Edge.due("goes", x.goes(0, 24, 0), -9);
        Edge.due("kind", x.kind(0, 63, 0, false, 0), 0);
        Edge.due("kind's act", x.kind(0, 63, 0, false, 1), -9);
        Edge.due("quarrel", x.kind(0, 63, 0, false, 2), -9);
        Edge.due("quarrel", x.kind(0, 63, 0, false, 3), -9);
        Edge.due("worth", x.worth(0, 0, 0, 0), -9);
        Edge.due("worth", x.worth(0, 0, 0, 1), -9);
        Edge.due("shifts", x.shifts(0, 0), -9);
        Edge.due("bars", x.bars(0), -8);
        Edge.due("time", x.time(0, 0), -9);
        Edge.due("changed", x.changed(0, 1, 0), 0);
        Edge.due("plan", x.plan(), 0);
        Edge.due("check", x.check(0, 0), -9);
        Edge.due("workdays", x.workdays(0, 0), 0);
        Edge.due("refusals", Edge.refusals(x), 0);
        Edge.due("act", x.act(0), -20);
        Edge.due("count(2)", x.count(2), 0);
        for (int what = 0; what < 8; what++) Edge.due("contract", x.contract(what, -1, 0), -1);
        for (int what = 0; what < 8; what++) Edge.due("after", x.after(what, false), 0);
    }

    private static void whatIsToldAtFirst() {
        WorksCouncil x = new WorksCouncil();
        Edge.says("NEEDS: none at first; SPAN: 5 at first; SILENCE: of 1, 2 at first");
        for (int kind = 0; kind < 5; kind++) {
            Edge.due("needs of " + kind, x.term(kind, 0, 0), 0);
            Edge.due("span of " + kind, x.term(kind, 1, 0), 5);
            Edge.due("silence of " + kind, x.term(kind, 2, 0), kind == 1 || kind == 2 ? 1 : 0);
        }
        Edge.says("NOTICE 3, TERM 30, LIMIT 14, ROOMY 3, MOST 3 at first");
        int[] first = {3, 30, 14, 3, 3};
        for (int what = 0; what < 5; what++) Edge.due("set " + what, x.set(what, 4), first[what]);
        Edge.says("VOTES: 0 at first");
        for (int shop = 0; shop < 6; shop++) Edge.due("votes of " + shop, x.votes(shop, 1), 0);
        Edge.says("NEED: 1 at first");
        for (int shift = 0; shift < 3; shift++) Edge.due("need of " + shift, x.need(shift, 0), 1);
        Edge.says("weights: 1 at first");
        for (int which = 0; which < 4; which++) Edge.due("weight " + which, x.weight(which, 0), 1);
    }

    private static void nobodyYet() {
        Edge.says("promise 1, NOBODY: no such SHOP, PERSON, ACT, matter, PAPER, SEAT, SESSION, AGREEMENT, DEED, PIECE");
        Edge.refused(Setups::empty, "leave", x -> x.leave(0), -1);
        Edge.refused(Setups::empty, "strike", x -> x.strike(0, 0), -1);
        Edge.refused(Setups::empty, "paper", x -> x.paper(0, 0, true), -1);
        Edge.refused(Setups::empty, "withdraw", x -> x.withdraw(0), -1);
        Edge.refused(Setups::empty, "state", x -> x.state(0, 0, 0), -1);
        Edge.refused(Setups::empty, "matterOf", x -> x.matterOf(0, 0), -1);
        Edge.refused(Setups::empty, "seat", x -> x.seat(0, 0), -1);
        Edge.refused(Setups::empty, "sit", x -> x.sit(0, 0), -1);
        Edge.refused(Setups::empty, "vote", x -> x.vote(0, 0, 0), -1);
        Edge.refused(Setups::empty, "sessionOf", x -> x.sessionOf(0, 0), -1);
        Edge.refused(Setups::empty, "voids", x -> x.voids(0), -1);
        Edge.refused(Setups::empty, "agree", x -> x.agree(0, 0, 0, 0), -1);
        Edge.refused(Setups::empty, "cancel", x -> x.cancel(0), -1);
        Edge.refused(Setups::empty, "agreementOf", x -> x.agreementOf(0, 0), -1);
        Edge.refused(Setups::empty, "board", x -> x.board(0, 0, 0, true), -1);
        Edge.refused(Setups::empty, "court", x -> x.court(0), -1);
        Edge.refused(Setups::empty, "deed", x -> x.deed(0, 0, 1, 0), -1);
        Edge.refusedFar(Setups::empty, "deedOf", x -> x.deedOf(0, 0), -1);
        Edge.refused(Setups::empty, "hang", x -> x.hang(0, 1), -1);
        Edge.refused(Setups::empty, "wish", x -> x.wish(0, 0, 0, true), -1);
        Edge.refused(Setups::empty, "shiftOf", x -> x.shiftOf(0, 0, 0, 0), -1);
        Edge.refused(Setups::empty, "right", x -> x.right(0, 0, 0), -1);
        Edge.refused(Setups::empty, "points", x -> x.points(0), -1);
        Edge.refused(Setups::empty, "placeOf", x -> x.placeOf(0), -1);
    }

    /** Promise 2. */
    private static void days() {
        Edge.says("promise 2: n (1 or more) DAYS pass: DAY. -4; -6 above 1000");
        Edge.range(Setups::empty, "days", (x, n) -> x.days(n), 1, 1000, -4, -6);
        Edge.range(() -> onDay(1), "days on 1", (x, n) -> x.days(n), 1, 999, -4, -6);
        Edge.range(() -> onDay(999), "days on 999", (x, n) -> x.days(n), 1, 1, -4, -6);
        Edge.refused(() -> onDay(1000), "days(1) on 1000", x -> x.days(1), -6);
        Edge.refused(() -> onDay(1000), "days(0) on 1000", x -> x.days(0), -4);
        Edge.range(Setups::busy, "days of a busy one", (x, n) -> x.days(n), 1, 998, -4, -6);
        Edge.taken(Setups::empty, "days(1)", x -> x.days(1), 1);
        Edge.taken(Setups::empty, "days(1000)", x -> x.days(1000), 1000);
        Edge.taken(() -> onDay(999), "days(1) on 999", x -> x.days(1), 1000);
        Edge.due("DAY", onDay(1000).count(0), 1000);
    }

    /** Promise 3. */
    private static void feasts() {
        Edge.says("promise 3: A FEAST: 1; -4; -6 (0 .. 1000)");
        Edge.range(Setups::busy, "feast", (x, day) -> x.feast(day), 0, 1000, -4, -6);
        Edge.taken(Setups::empty, "feast(0)", x -> x.feast(0), 1);
        Edge.taken(Setups::empty, "feast(1000)", x -> x.feast(1000), 1);
        Edge.says("promise 3: 0 it was one (told, once for a DAY)");
        Edge.leaves(Setups::busy, "feast again", x -> x.feast(15), 0);
        Edge.leaves(() -> { WorksCouncil x = onDay(1000); x.feast(0); x.feast(1000); return x; }, "feast(0) again", x -> x.feast(0), 0);
        Edge.leaves(() -> { WorksCouncil x = onDay(1000); x.feast(0); x.feast(1000); return x; }, "feast(1000) again", x -> x.feast(1000), 0);
        Edge.says("I: of any DAY, gone by, too; known at once");
        WorksCouncil x = onDay(10);
        Edge.due("gone by", x.feast(9), 1);
        Edge.due("known at once", x.workdays(8, 9), 0);
        Edge.due("now", x.feast(10), 1);
        Edge.due("known at once", x.workdays(9, 10), 0);
        Edge.due("to come", x.feast(11), 1);
        Edge.due("known at once", x.workdays(10, 11), 0);
        Edge.due("the days beside them", x.workdays(7, 8) + x.workdays(11, 14), 2);
        Edge.says("I: a WORKDAY if DAY modulo 7 is below 5 and it is no FEAST");
        WorksCouncil y = onDay(0);
        int[] week = {1, 1, 1, 1, 0, 0, 1};
        for (int day = 0; day < 7; day++) Edge.due("workdays(" + day + ", " + (day + 1) + ")", y.workdays(day, day + 1), week[day]);
        Edge.due("a feast on no workday", y.feast(5), 1);
        Edge.due("a feast on no workday", y.feast(6), 1);
        Edge.due("takes none away", y.workdays(0, 7), 5);
        Edge.due("a feast on a workday", y.feast(4), 1);
        Edge.due("takes one away", y.workdays(0, 7), 4);
        Edge.due("told again", y.feast(4), 0);
        Edge.due("takes no other away", y.workdays(0, 7), 4);
    }

    /** Promise 4. */
    private static void workdays() {
        Edge.says("promise 4: how many WORKDAYS lie behind a DAY up to another one. -4; -6");
        Edge.range(Setups::busy, "workdays, from", (x, day) -> x.workdays(day, 0), 0, 1000, -4, -6);
        Edge.range(Setups::busy, "workdays, to", (x, day) -> x.workdays(0, day), 0, 1000, -4, -6);
        Edge.refused(Setups::busy, "-4 ahead of -6", x -> x.workdays(1001, -1), -4);
        Edge.refused(Setups::busy, "-4 ahead of -6", x -> x.workdays(-1, 1001), -4);
        Edge.leaves(Setups::empty, "all", x -> x.workdays(0, 1000), 714);
        Edge.leaves(Setups::empty, "the last day, modulo 7 of 6", x -> x.workdays(999, 1000), 0);
        Edge.leaves(Setups::empty, "the last workday", x -> x.workdays(997, 1000), 1);
        Edge.leaves(Setups::empty, "the first day is not behind itself", x -> x.workdays(0, 1), 1);
        Edge.says("promise 4: 0 if that is not behind it");
        Edge.leaves(Setups::empty, "the same day", x -> x.workdays(3, 3), 0);
        Edge.leaves(Setups::empty, "the same day", x -> x.workdays(0, 0), 0);
        Edge.leaves(Setups::empty, "the same day", x -> x.workdays(1000, 1000), 0);
        Edge.leaves(Setups::empty, "one day ahead", x -> x.workdays(4, 3), 0);
        Edge.leaves(Setups::empty, "all ahead", x -> x.workdays(1000, 0), 0);
        Edge.says("promise 4: behind a DAY: not that one; up to another one: that one, too");
        WorksCouncil x = new WorksCouncil();
        x.feast(1);
        Edge.due("a feast to begin with", x.workdays(1, 4), 3);
        x.feast(4);
        Edge.due("a feast to end with", x.workdays(1, 4), 2);
        x.feast(997);
        x.feast(1000);
        Edge.due("feasts at the end", x.workdays(996, 1000), 1);
        x.feast(0);
        Edge.due("a feast on day 0", x.workdays(0, 7), 3);
    }

    /** Promise 5. */
    private static void people() {
        Edge.says("promise 5: A PERSON, HERE: its number. -1 SHOP (0 .. 5)");
        Edge.range(Setups::busy, "shop", (x, v) -> x.person(v, -9000, 0, 0, 0), 0, 5, -1, -1);
        Edge.says("promise 5: -4; -6: BORN -25000 .. -5000, CAME -15000 .. now, CHILDREN 0 .. 9, HURT 0 .. 100");
        Edge.range(Setups::busy, "born", (x, v) -> x.person(0, v, 0, 0, 0), -25000, -5000, -4, -6);
        Edge.range(Setups::empty, "came on 0", (x, v) -> x.person(0, -9000, v, 0, 0), -15000, 0, -4, -6);
        Edge.range(Setups::busy, "came on 2", (x, v) -> x.person(0, -9000, v, 0, 0), -15000, 2, -4, -6);
        Edge.range(() -> onDay(1000), "came on 1000", (x, v) -> x.person(0, -9000, v, 0, 0), -15000, 1000, -4, -6);
        Edge.range(Setups::busy, "children", (x, v) -> x.person(0, -9000, 0, v, 0), 0, 9, -4, -6);
        Edge.range(Setups::busy, "hurt", (x, v) -> x.person(0, -9000, 0, 0, v), 0, 100, -4, -6);
        Edge.says("promise 5: the first that fits in the order told");
        Edge.refused(Setups::busy, "-1 ahead of -4", x -> x.person(6, -25001, -15001, -1, -1), -1);
        Edge.refused(Setups::busy, "-1 ahead of -6", x -> x.person(-1, -4999, 3, 10, 101), -1);
        Edge.refused(Setups::busy, "born below, all else above", x -> x.person(0, -25001, 3, 10, 101), -4);
        Edge.refused(Setups::busy, "came below, all else above", x -> x.person(0, -4999, -15001, 10, 101), -4);
        Edge.refused(Setups::busy, "children below, all else above", x -> x.person(0, -4999, 3, -1, 101), -4);
        Edge.refused(Setups::busy, "hurt below, all else above", x -> x.person(0, -4999, 3, 10, -1), -4);
        Edge.says("I: PEOPLE have numbers from 0 on (24 at most)");
        Edge.taken(Setups::empty, "the first", x -> x.person(0, -9000, 0, 0, 0), 0);
        Edge.taken(() -> people(23), "the 24th", x -> x.person(0, -9000, 0, 0, 0), 23);
        Edge.refused(() -> people(24), "the 25th", x -> x.person(0, -9000, 0, 0, 0), -6);
        Edge.refused(() -> people(24), "the 25th, shop", x -> x.person(6, -9000, 0, 0, 0), -1);
        Edge.refused(() -> people(24), "the 25th, born", x -> x.person(0, -25001, 0, 0, 0), -4);
        WorksCouncil x = people(24);
        Edge.due("all of them are HERE", x.count(1), 24);
        x.leave(0);
        Edge.due("who has LEFT keeps a number", x.person(0, -9000, 0, 0, 0), -6);
        Edge.due("one less is HERE", x.count(1), 23);
        WorksCouncil y = new WorksCouncil();
        y.person(0, -25000, -15000, 9, 100);
        Edge.due("as told: 25000 / 365, 15000 / 365, 9, 100", y.points(0), 68 + 41 + 9 + 100);
        y.person(0, -5000, 0, 0, 0);
        Edge.due("as told: 5000 / 365", y.points(1), 13);
    }

    /** Promise 6. */
    private static void leaving() {
        Edge.says("promise 6: A PERSON has LEFT: 1. -1; -3 so already");
        Edge.range(() -> people(1), "leave", (x, p) -> x.leave(p), 0, 0, -1, -1);
        Edge.range(() -> people(24), "leave", (x, p) -> x.leave(p), 0, 23, -1, -1);
        Edge.refused(Setups::busy, "one above the greatest", x -> x.leave(6), -1);
        Edge.taken(Setups::busy, "leave", x -> x.leave(0), 1);
        Edge.refused(Setups::busy, "LEFT already", x -> x.leave(5), -3);
        Edge.refused(() -> { WorksCouncil x = people(24); x.leave(23); return x; }, "LEFT already", x -> x.leave(23), -3);
        Edge.says("I: they are HERE till they have LEFT");
        WorksCouncil x = people(2);
        x.leave(1);
        Edge.due("one is HERE", x.count(1), 1);
        Edge.due("not of those who go", x.goes(1, 24, 0), -9);
        x.leave(0);
        Edge.due("nobody is HERE", x.count(1), 0);
    }

    public static void main(String[] args) {
        nothingThereYet();
        whatIsToldAtFirst();
        nobodyYet();
        days();
        feasts();
        workdays();
        people();
        leaving();
        Edge.finish("edges of days");
    }
}
