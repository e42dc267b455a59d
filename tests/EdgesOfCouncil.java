/** The edges that the document names under IV, and of promises 17 to 25. */
public final class EdgesOfCouncil {
    private EdgesOfCouncil() {
    }

    private static WorksCouncil sessions(int n) {
        WorksCouncil x = Setups.seated(3);
        for (int i = 0; i < n; i++) x.session(0, 1);
        return x;
    }

    private static WorksCouncil voted(int... votes) {
        WorksCouncil x = new WorksCouncil();
        for (int shop = 0; shop < votes.length; shop++) x.votes(shop, votes[shop]);
        return x;
    }

    /** Promise 17. */
    private static void votes() {
        Edge.says("promise 17: -1 SHOP; -4; -6; IV: VOTES (0 .. 999; 0 at first)");
        Edge.range(Setups::busy, "shop", (x, v) -> x.votes(v, 0), 0, 5, -1, -1);
        Edge.range(Setups::busy, "n", (x, v) -> x.votes(0, v), 0, 999, -4, -6);
        Edge.range(Setups::empty, "n of shop 5", (x, v) -> x.votes(5, v), 0, 999, -4, -6);
        Edge.refused(Setups::busy, "-1 ahead of -4", x -> x.votes(6, -1), -1);
        Edge.refused(Setups::busy, "-1 ahead of -6", x -> x.votes(-1, 1000), -1);
        Edge.says("promise 17: what they were");
        WorksCouncil x = voted(999);
        Edge.due("999", x.votes(0, 0), 999);
        Edge.due("0", x.votes(0, 1), 0);
        Edge.due("another shop's", x.votes(1, 1), 0);
    }

    private static void shopsOfSeats(WorksCouncil x, int... shops) {
        Edge.due("elect(" + shops.length + ")", x.elect(shops.length), shops.length);
        for (int i = 0; i < shops.length; i++) Edge.due("shop of seat " + i, x.seat(i, 0), shops[i]);
        Edge.due("no seat more", x.seat(shops.length, 0), -1);
    }

    /** Promise 18. */
    private static void elections() {
        Edge.says("promise 18: -4; -6 (1 .. 9)");
        Edge.range(Setups::busy, "elect", (x, n) -> x.elect(n), 1, 9, -4, -6);
        Edge.range(Setups::empty, "elect without VOTES", (x, n) -> x.elect(n), 1, 9, -4, -6);
        Edge.says("promise 18: how many SEATS there are; IV: 0 without VOTES");
        Edge.taken(Setups::busy, "elect(1)", x -> x.elect(1), 1);
        Edge.taken(Setups::busy, "elect(9)", x -> x.elect(9), 9);
        Edge.taken(Setups::empty, "elect(1)", x -> x.elect(1), 0);
        Edge.taken(Setups::empty, "elect(9)", x -> x.elect(9), 0);
        WorksCouncil x = Setups.seated(9);
        x.votes(0, 0);
        Edge.due("still those seats", x.count(4), 9);
        Edge.due("without VOTES now", x.elect(3), 0);
        Edge.due("no SEATS", x.count(4), 0);
        Edge.due("not even the first", x.seat(0, 0), -1);
        Edge.says("IV: to the SHOP for which VOTES by (SEATS it has and 1) are greatest, of several the least");
        shopsOfSeats(voted(0, 0, 0, 0, 0, 1), 5, 5, 5, 5, 5, 5, 5, 5, 5);
        shopsOfSeats(voted(1, 1, 1, 1, 1, 1), 0, 1, 2, 3, 4, 5, 0, 1, 2);
        shopsOfSeats(voted(0, 6, 3, 2), 1, 1, 2, 1, 3, 1, 2, 1, 1);
        shopsOfSeats(voted(999, 0, 333), 0, 0, 0, 2, 0, 0, 0, 2, 0);
        Edge.says("IV: only SHOPS with VOTES get some");
        shopsOfSeats(voted(0, 0, 1, 0, 999, 0), 4, 4, 4, 4, 4, 4, 4, 4, 4);
        Edge.says("IV: greatest (exactly)");
        shopsOfSeats(voted(3, 5), 1, 0, 1, 1);
        shopsOfSeats(voted(998, 999), 1, 0, 1, 0);
        shopsOfSeats(voted(499, 999), 1, 1, 0, 1);
        shopsOfSeats(voted(500, 999), 1, 0, 1);
        WorksCouncil again = voted(3, 5);
        for (int i = 0; i < 3; i++) shopsOfSeats(again, 1, 0, 1, 1);
        again.votes(1, 0);
        shopsOfSeats(again, 0, 0, 0, 0, 0);
        Edge.says("IV: nobody sits then");
        WorksCouncil y = Setups.seated(3);
        y.elect(3);
        for (int seat = 0; seat < 3; seat++) Edge.due("member of " + seat, y.seat(seat, 1), -9);
        y.sit(2, 0);
        Edge.due("fewer seats", y.elect(1), 1);
        Edge.due("who sat in one that is no more may sit", y.sit(0, 0), 1);
        Edge.due("more seats", y.elect(9), 9);
        Edge.due("nobody", y.seat(0, 1), -9);
        Edge.due("nobody", y.seat(2, 1), -9);
    }

    /** Promise 19. */
    private static void seats() {
        Edge.says("promise 19: -1; -2");
        Edge.range(Setups::busy, "seat", (x, v) -> x.seat(v, 0), 0, 2, -1, -1);
        Edge.range(() -> Setups.seated(9), "seat", (x, v) -> x.seat(v, 1), 0, 8, -1, -1);
        Edge.range(Setups::busy, "what", (x, v) -> x.seat(0, v), 0, 1, -2, -2);
        Edge.refused(Setups::busy, "-1 ahead of -2", x -> x.seat(3, 2), -1);
        Edge.says("promise 19: 1 MEMBER (-9 nobody; told on, if LEFT)");
        Edge.leaves(Setups::busy, "member", x -> x.seat(1, 1), 1);
        Edge.leaves(Setups::busy, "nobody", x -> x.seat(2, 1), -9);
        Edge.leaves(Setups::busy, "shop", x -> x.seat(2, 0), 0);
        Edge.leaves(() -> { WorksCouncil x = Setups.busy(); x.leave(0); return x; }, "who left", x -> x.seat(0, 1), 0);
    }

    /** Promise 20. */
    private static void members() {
        Edge.says("promise 20: -1; -3 not HERE, of another SHOP, in another SEAT");
        Edge.refused(Setups::busy, "seat -1", x -> x.sit(-1, 2), -1);
        Edge.refused(Setups::busy, "the least int", x -> x.sit(Integer.MIN_VALUE, 2), -1);
        Edge.refused(Setups::busy, "the greatest int", x -> x.sit(Integer.MAX_VALUE, 2), -1);
        Edge.refused(Setups::busy, "one seat above the greatest", x -> x.sit(3, 2), -1);
        Edge.taken(Setups::busy, "the greatest seat", x -> x.sit(2, 2), 1);
        Edge.taken(() -> Setups.seated(9), "the greatest of all", x -> x.sit(8, 8), 1);
        Edge.refused(() -> Setups.seated(9), "one above it", x -> x.sit(9, 8), -1);
        Edge.refused(Setups::busy, "person -1", x -> x.sit(2, -1), -1);
        Edge.refused(Setups::busy, "person -9", x -> x.sit(2, -9), -1);
        Edge.refused(Setups::busy, "person 6", x -> x.sit(2, 6), -1);
        Edge.refused(Setups::busy, "the greatest int", x -> x.sit(2, Integer.MAX_VALUE), -1);
        Edge.refused(Setups::busy, "the least int", x -> x.sit(2, Integer.MIN_VALUE), -1);
        Edge.refused(Setups::busy, "no seat, who left", x -> x.sit(3, 5), -1);
        Edge.refused(Setups::busy, "not HERE", x -> x.sit(2, 5), -3);
        Edge.refused(Setups::busy, "of another SHOP", x -> x.sit(2, 4), -3);
        Edge.refused(Setups::busy, "in a SEAT ahead", x -> x.sit(2, 0), -3);
        Edge.refused(Setups::busy, "in a SEAT behind", x -> x.sit(0, 1), -3);
        Edge.taken(Setups::busy, "in the same SEAT", x -> x.sit(0, 0), 1);
        Edge.taken(Setups::busy, "in one's stead", x -> x.sit(0, 3), 1);
        WorksCouncil x = Setups.busy();
        x.sit(0, 3);
        Edge.due("who sat there", x.sit(2, 0), 1);
        Edge.due("sits in another one now", x.seat(2, 1), 0);
        Edge.due("who sits there", x.seat(0, 1), 3);
    }

    /** Promise 21. */
    private static void sessions() {
        Edge.says("promise 21: -4 called below 0, present below 0; -3 called behind now");
        Edge.range(Setups::busy, "called", (x, v) -> x.session(v, 0), 0, 2, -4, -3);
        Edge.range(Setups::empty, "called on 0", (x, v) -> x.session(v, 0), 0, 0, -4, -3);
        Edge.range(() -> Setups.seated(9), "present", (x, v) -> x.session(0, v), 0, 511, -4, -3);
        Edge.range(() -> Setups.seated(1), "present", (x, v) -> x.session(0, v), 0, 1, -4, -3);
        Edge.range(Setups::empty, "present without seats", (x, v) -> x.session(0, v), 0, 0, -4, -3);
        Edge.says("promise 21: -3 one of no such SEAT, or whose MEMBER is not HERE");
        Edge.taken(Setups::busy, "those who sit", x -> x.session(0, 3), 2);
        Edge.refused(Setups::busy, "a seat in which nobody sits", x -> x.session(0, 4), -3);
        Edge.refused(Setups::busy, "with others", x -> x.session(0, 7), -3);
        Edge.Made first = () -> { WorksCouncil x = Setups.busy(); x.leave(0); return x; };
        Edge.refused(first, "the first seat, who left", x -> x.session(0, 1), -3);
        Edge.refused(first, "with others", x -> x.session(0, 3), -3);
        Edge.taken(first, "the others alone", x -> x.session(0, 2), 2);
        Edge.refused(Setups::busy, "no such seat", x -> x.session(0, 8), -3);
        Edge.refused(Setups::busy, "no such seat", x -> x.session(0, 1 << 30), -3);
        Edge.Made gone = () -> { WorksCouncil x = Setups.busy(); x.leave(1); return x; };
        Edge.refused(gone, "who left", x -> x.session(0, 2), -3);
        Edge.taken(gone, "who did not", x -> x.session(0, 1), 2);
        Edge.refused(Setups::busy, "-4 ahead of -3", x -> x.session(3, -1), -4);
        Edge.refused(Setups::busy, "-4 ahead of -3", x -> x.session(-1, 8), -4);
        Edge.says("IV: SESSIONS have numbers from 0 on (30 at most); promise 21: -6 30");
        Edge.taken(() -> sessions(0), "the first", x -> x.session(0, 1), 0);
        Edge.taken(() -> sessions(29), "the 30th", x -> x.session(0, 1), 29);
        Edge.refused(() -> sessions(30), "the 31st", x -> x.session(0, 1), -6);
        Edge.refused(() -> sessions(30), "-4 ahead of -6", x -> x.session(-1, 1), -4);
        Edge.refused(() -> sessions(30), "-3 ahead of -6", x -> x.session(1, 1), -3);
        Edge.refused(() -> sessions(30), "-3 ahead of -6", x -> x.session(0, 8), -3);
    }

    private static int right(int seats, int notice, int day, int called, int present) {
        WorksCouncil x = Setups.seated(seats);
        x.set(0, notice);
        if (day > 0) x.days(day);
        int session = x.session(called, present);
        return x.sessionOf(session, 2);
    }

    private static void rightness() {
        Edge.says("IV: called NOTICE DAYS ahead or more");
        Edge.due("3 of 3", right(3, 3, 5, 2, 7), 1);
        Edge.due("2 of 3", right(3, 3, 5, 3, 7), 0);
        Edge.due("5 of 3", right(3, 3, 5, 0, 7), 1);
        Edge.due("0 of 0", right(3, 0, 5, 5, 7), 1);
        Edge.due("0 of 1", right(3, 1, 5, 5, 7), 0);
        Edge.due("20 of 20", right(3, 20, 1000, 980, 7), 1);
        Edge.due("19 of 20", right(3, 20, 1000, 981, 7), 0);
        WorksCouncil w = new WorksCouncil();
        w.person(0, -9000, 0, 0, 0);
        w.votes(0, 1);
        w.elect(1);
        w.sit(0, 0);
        w.days(3);
        w.session(0, 1);
        w.session(1, 1);
        Edge.due("3 of 3 at first", w.sessionOf(0, 2), 1);
        Edge.due("2 of 3 at first", w.sessionOf(1, 2), 0);
        Edge.says("IV: and more than half of all SEATS are PRESENT");
        int[] sets = {0, 1, 3, 7, 15, 31, 63, 127, 255, 511};
        for (int seats = 1; seats <= 9; seats++) {
            int half = seats / 2;
            Edge.due(half + " of " + seats, right(seats, 0, 0, 0, sets[half]), 0);
            Edge.due(half + 1 + " of " + seats, right(seats, 0, 0, 0, sets[half + 1]), 1);
        }
        Edge.due("others than the first", right(9, 0, 0, 0, 512 - 16), 1);
        WorksCouncil none = new WorksCouncil();
        none.set(0, 0);
        none.session(0, 0);
        Edge.due("none of none are not more than half", none.sessionOf(0, 2), 0);
        Edge.says("IV: of all SEATS, of those in which nobody sits, too");
        WorksCouncil x = Setups.busy();
        x.votes(0, 10);
        x.elect(4);
        x.sit(0, 0);
        x.sit(1, 1);
        x.session(2, 3);
        Edge.due("two of four", x.sessionOf(2, 2), 0);
        Edge.says("IV: RIGHT, as it is told");
        WorksCouncil y = Setups.seated(3);
        y.session(0, 3);
        y.session(0, 1);
        y.set(0, 20);
        y.elect(9);
        Edge.due("later NOTICE and SEATS", y.sessionOf(0, 2), 1);
        y.elect(1);
        y.set(0, 0);
        Edge.due("later NOTICE and SEATS", y.sessionOf(1, 2), 0);
        y.leave(0);
        y.leave(1);
        Edge.due("who left later", y.sessionOf(0, 2), 1);
    }

    /** Promise 22. */
    private static void votesOnMatters() {
        Edge.says("promise 22: -1");
        Edge.Made made = () -> { WorksCouncil x = Setups.seated(3); x.open(1, 1, 0, false); x.open(1, 1, 0, false); x.session(0, 7); return x; };
        Edge.range(made, "matter", (x, m) -> x.vote(m, 0, 0), 0, 1, -1, -1);
        Edge.says("promise 22: -3 there is no SESSION of now");
        Edge.Made without = () -> { WorksCouncil x = Setups.seated(3); x.open(1, 1, 0, false); return x; };
        Edge.refused(without, "none at all", x -> x.vote(0, 0, 0), -3);
        Edge.refused(() -> { WorksCouncil x = made.make(); x.days(1); return x; }, "one of the day ahead", x -> x.vote(0, 7, 0), -3);
        Edge.refused(without, "-1 ahead of -3", x -> x.vote(1, 0, 0), -1);
        Edge.says("promise 22: -3 KIND, STATE: KIND 2 to 4 whose STATE now is 2 or 3");
        for (int kind = 0; kind < 5; kind++) {
            for (int state : Setups.statesOf(kind)) {
                int of = kind;
                Edge.Made in = () -> Setups.inState(of, state);
                String call = "kind " + kind + ", state " + state;
                if (kind >= 2 && (state == 2 || state == 3)) Edge.taken(in, call, x -> x.vote(0, 7, 0), 1);
                else Edge.refused(in, call, x -> x.vote(0, 7, 0), -3);
            }
        }
        Edge.says("promise 22: -3 sets not as told: of PRESENT ones, that have none in common");
        Edge.Made some = () -> { WorksCouncil x = without.make(); x.session(0, 5); return x; };
        Edge.refused(some, "yes of one not PRESENT", x -> x.vote(0, 2, 0), -3);
        Edge.refused(some, "no of one not PRESENT", x -> x.vote(0, 0, 2), -3);
        Edge.refused(some, "no such SEAT", x -> x.vote(0, 8, 0), -3);
        Edge.refused(some, "no such SEAT", x -> x.vote(0, 0, 8), -3);
        Edge.refused(some, "one in common", x -> x.vote(0, 5, 1), -3);
        Edge.refused(some, "all in common", x -> x.vote(0, 5, 5), -3);
        Edge.refused(some, "yes below 0", x -> x.vote(0, -1, 0), -3);
        Edge.refused(some, "no below 0", x -> x.vote(0, 0, -1), -3);
        Edge.refused(some, "the least", x -> x.vote(0, Integer.MIN_VALUE, 0), -3);
        Edge.refused(some, "the least", x -> x.vote(0, 0, Integer.MIN_VALUE), -3);
        Edge.refused(some, "the greatest", x -> x.vote(0, Integer.MAX_VALUE, 0), -3);
        Edge.refused(some, "the greatest", x -> x.vote(0, 0, Integer.MAX_VALUE), -3);
        Edge.taken(some, "all yes", x -> x.vote(0, 5, 0), 1);
        Edge.taken(some, "all no", x -> x.vote(0, 0, 5), 0);
        Edge.taken(some, "one each", x -> x.vote(0, 4, 1), 0);
        Edge.taken(some, "nobody", x -> x.vote(0, 0, 0), 0);
    }

    private static void answers() {
        Edge.says("IV: ANSWER yes if yes are more than half of PRESENT, else no");
        int[] sets = {0, 1, 3, 7, 15, 31, 63, 127, 255, 511};
        for (int present = 0; present <= 9; present++) {
            for (int yes = 0; yes <= present; yes++) {
                WorksCouncil x = Setups.seated(9);
                x.open(2, 1, 0, false);
                x.session(0, sets[present]);
                String call = yes + " yes of " + present;
                Edge.due(call, x.vote(0, sets[yes], 0), 2 * yes > present ? 1 : 0);
                Edge.due(call + ", state", x.state(0, 0, 0), 2 * yes > present ? 4 : 5);
            }
        }
        Edge.says("IV: in the latest SESSION (told VOID already, too), on its DAY");
        WorksCouncil x = Setups.seated(3);
        for (int i = 0; i < 3; i++) x.open(1, 1, 0, false);
        x.session(0, 7);
        x.session(0, 1);
        Edge.due("PRESENT of the latest", x.vote(0, 2, 0), -3);
        Edge.due("one of one", x.vote(0, 1, 0), 1);
        Edge.due("it gave one", x.voids(1), 1);
        Edge.due("VOID already", x.vote(1, 1, 0), 1);
        Edge.due("its answer counts not", x.state(1, 0, 0), 3);
        Edge.due("a TELLING", x.matterOf(1, 4), 1);
        Edge.due("once more", x.vote(1, 1, 0), 1);
        Edge.due("told VOID once", x.voids(1), -3);
        Edge.says("promise 22: -6 30 TELLINGS");
        for (int told = 28; told <= 30; told++) {
            int n = told;
            Edge.Made made = () -> {
                WorksCouncil y = Setups.seated(3);
                y.open(1, 1, 0, false);
                y.session(0, 7);
                for (int i = 0; i < n; i++) y.paper(0, 0, true);
                return y;
            };
            if (n < 30) Edge.taken(made, "behind " + n, y -> y.vote(0, 7, 0), 1);
            else Edge.refused(made, "the 31st", y -> y.vote(0, 7, 0), -6);
            Edge.refused(made, "-3 ahead of -6", y -> y.vote(0, 8, 0), -3);
            Edge.refused(made, "-1 ahead of -6", y -> y.vote(1, 7, 0), -1);
        }
    }

    /** Promises 23 and 24. */
    private static void looksAndVoids() {
        Edge.says("promise 23: -1; -2");
        Edge.range(Setups::busy, "session", (x, s) -> x.sessionOf(s, 0), 0, 1, -1, -1);
        Edge.range(() -> sessions(30), "session", (x, s) -> x.sessionOf(s, 0), 0, 29, -1, -1);
        Edge.range(Setups::busy, "what", (x, v) -> x.sessionOf(0, v), 0, 3, -2, -2);
        Edge.refused(Setups::busy, "-1 ahead of -2", x -> x.sessionOf(2, 4), -1);
        int[][] due = {{0, 3, 1, 0}, {0, 1, 0, 0}};
        for (int s = 0; s < 2; s++) {
            for (int what = 0; what < 4; what++) {
                int of = s;
                int asked = what;
                Edge.leaves(Setups::busy, "sessionOf(" + s + ", " + what + ")", x -> x.sessionOf(of, asked), due[s][what]);
            }
        }
        WorksCouncil all = Setups.seated(9);
        all.days(1000);
        all.session(1000, 511);
        Edge.due("the last day", all.sessionOf(0, 0), 1000);
        Edge.due("all nine", all.sessionOf(0, 1), 511);
        Edge.says("promise 24: -1; -3 RIGHT, told so");
        Edge.range(() -> sessions(30), "session", (x, s) -> x.voids(s), 0, 29, -1, -1);
        Edge.refused(Setups::busy, "RIGHT", x -> x.voids(0), -3);
        Edge.refused(Setups::busy, "one above the greatest", x -> x.voids(2), -1);
        Edge.Made told = () -> { WorksCouncil x = Setups.busy(); x.voids(1); return x; };
        Edge.refused(told, "told so", x -> x.voids(1), -3);
        Edge.refused(() -> { WorksCouncil x = told.make(); x.days(1); return x; }, "told so, a day later", x -> x.voids(1), -3);
        Edge.due("whether told VOID", told.make().sessionOf(1, 3), 1);
        Edge.due("the other one", told.make().sessionOf(0, 3), 0);
        Edge.says("promise 24: how many ANSWERS it gave");
        Edge.taken(Setups::busy, "one", x -> x.voids(1), 1);
        Edge.taken(() -> sessions(1), "none", x -> x.voids(0), 0);
        WorksCouncil x = Setups.seated(3);
        for (int i = 0; i < 40; i++) x.open(1, 1, 0, false);
        x.session(0, 1);
        for (int i = 0; i < 40; i++) x.vote(i, i % 2, 0);
        Edge.due("forty", x.voids(0), 40);
        for (int i = 0; i < 40; i += 13) Edge.due("none of them counts", x.state(i, 0, 0), 3);
        WorksCouncil y = Setups.seated(3);
        for (int i = 0; i < 30; i++) y.open(1, 1, 0, false);
        for (int i = 0; i < 30; i++) {
            y.session(0, 1);
            y.vote(i, 1, 0);
        }
        Edge.due("the 30th session's", y.voids(29), 1);
        Edge.due("its answer", y.state(29, 0, 0), 3);
        Edge.due("another's", y.state(28, 0, 0), 4);
        Edge.due("the first session's", y.voids(0), 1);
        Edge.due("its answer", y.state(0, 0, 0), 3);
    }

    /** Promise 25. */
    private static void settings() {
        Edge.says("promise 25: -2; -4; -6: NOTICE 0 .. 20, TERM 0 .. 200, LIMIT 0 .. 1000, ROOMY 3 .. 9, MOST 0 .. 4");
        int[] least = {0, 0, 0, 3, 0};
        int[] most = {20, 200, 1000, 9, 4};
        for (int what = 0; what < 5; what++) {
            int of = what;
            Edge.range(Setups::busy, "set " + what, (x, v) -> x.set(of, v), least[what], most[what], -4, -6);
            WorksCouncil x = new WorksCouncil();
            x.set(what, most[what]);
            Edge.due("what it was", x.set(what, least[what]), most[what]);
            Edge.due("what it was", x.set(what, most[what]), least[what]);
        }
        Edge.range(Setups::busy, "what", (x, v) -> x.set(v, 3), 0, 4, -2, -2);
        Edge.refused(Setups::busy, "-2 ahead of -4", x -> x.set(5, -1), -2);
        Edge.refused(Setups::busy, "-2 ahead of -6", x -> x.set(-1, 1001), -2);
    }

    public static void main(String[] args) {
        votes();
        elections();
        seats();
        members();
        sessions();
        rightness();
        votesOnMatters();
        answers();
        looksAndVoids();
        settings();
        Edge.finish("edges of the council");
    }
}
