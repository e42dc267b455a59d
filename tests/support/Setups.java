/** Objects that the edge tests begin with. */
final class Setups {
    private Setups() {
    }

    static WorksCouncil empty() {
        return new WorksCouncil();
    }

    /** Feeds a text in pieces of eight bytes at most, the lowest byte first; what it answered last. */
    static int feed(WorksCouncil x, String text) {
        int has = 0;
        for (int i = 0; i < text.length(); i += 8) {
            String piece = text.substring(i, Math.min(text.length(), i + 8));
            long bytes = 0;
            for (int b = 0; b < piece.length(); b++) bytes |= (long) piece.charAt(b) << 8 * b;
            has = x.feed(piece.length(), bytes);
        }
        return has;
    }

    static int act(WorksCouncil x, String text, int from) {
        feed(x, text);
        return x.act(from);
    }

    /** Where a text's fault lies, -1 without one. */
    static int faultOf(String text) {
        int answer = act(new WorksCouncil(), text, 0);
        return answer >= 0 ? -1 : -20 - answer;
    }

    /** Matters of A are of kind 1, of B of 2, of C of 3, of D of 4, of others of 0. */
    static WorksCouncil kinds() {
        WorksCouncil x = new WorksCouncil();
        for (int what = 0; what < 4; what++) act(x, (char) ('A' + what) + "" + (what + 1) + ":1>0", 0);
        return x;
    }

    /** The same with so many seats of shop 0 (9 at most), as many people in them, and notice 0. */
    static WorksCouncil seated(int seats) {
        WorksCouncil x = kinds();
        x.set(0, 0);
        x.votes(0, 10);
        x.elect(seats);
        for (int i = 0; i < seats; i++) {
            x.person(0, -9000, 0, 0, 0);
            x.sit(i, i);
        }
        return x;
    }

    /** So many matters of kind 3, shops 0 and 1, sum 100, opened on day 0, let by silence now, on day 1. */
    static WorksCouncil passed(int matters) {
        WorksCouncil x = kinds();
        x.term(3, 1, 0);
        x.term(3, 2, 1);
        for (int i = 0; i < matters; i++) x.open(2, 3, 100, false);
        x.days(1);
        return x;
    }

    /** The what whose matters are of a kind. */
    static int whatOf(int kind) {
        return kind == 0 ? 7 : kind - 1;
    }

    /** Matter 0 of a kind in a state now, shops 0 and 1, sum 100; three seats, all taken, and a session of now with all. */
    static WorksCouncil inState(int kind, int state) {
        WorksCouncil x = seated(3);
        boolean silent = state == 6 || state == 7;
        x.term(kind, 0, state == 2 ? 1 : 0);
        if (silent) x.term(kind, 1, 0);
        if (silent) x.term(kind, 2, state == 6 ? 1 : 0);
        x.open(whatOf(kind), 3, 100, false);
        if (silent) x.days(1);
        x.session(x.count(0), 7);
        if (state == 4) x.vote(0, 7, 0);
        if (state == 5 || state == 8 || state == 9) x.vote(0, 0, 7);
        if (state == 8 || state == 9) x.board(0, 2, 0, state == 8);
        if (state == 1) x.withdraw(0);
        return x;
    }

    /** The states that a matter of a kind can be in. */
    static int[] statesOf(int kind) {
        int[][] states = {{0, 1}, {1, 2, 6}, {1, 2, 3, 4, 5, 6, 7}, {1, 2, 3, 4, 5, 6, 7, 8, 9}, {1, 2, 3, 4, 5, 6, 7, 8, 9}};
        return states[kind];
    }

    static boolean isAmong(int v, int... all) {
        for (int one : all) if (one == v) return true;
        return false;
    }

    /** Something of everything, on day 2: what a call must leave as it was can be seen in it. */
    static WorksCouncil busy() {
        WorksCouncil x = kinds();
        x.person(0, -10000, -3000, 2, 0);
        x.person(0, -12000, -400, 0, 30);
        x.person(0, -9000, -400, 1, 0);
        x.person(0, -15000, -7000, 3, 0);
        x.person(1, -8000, -100, 0, 0);
        x.person(0, -8000, -100, 0, 0);
        x.leave(5);
        x.votes(0, 10);
        x.elect(3);
        x.sit(0, 0);
        x.sit(1, 1);
        x.set(0, 0);
        busyMatters(x);
        x.contract(2, 80, 1);
        x.deed(3, 3, 1, 50);
        x.deed(-1, 2, 1, 0);
        x.hang(0, 5);
        x.hang(1, 7);
        x.wish(0, 0, 0, true);
        x.wish(3, 1, 2, true);
        for (int v = 100; v <= 300; v += 100) x.study(0, v);
        x.study(1, 5);
        x.list();
        x.planned(2, 0, 0);
        x.planned(3, 1, 1);
        x.put(6);
        x.put(3);
        feed(x, "A1:");
        x.feast(15);
        x.days(2);
        return x;
    }

    /**
     * 0 of kind 1; 1 of kind 2, running; 2 of kind 3, answered yes in a session that is not right, with an agreement;
     * 3 of kind 4, not whole; 4 of kind 0; 5 of kind 3, answered no and ruled yes, with an agreement.
     */
    private static void busyMatters(WorksCouncil x) {
        x.term(2, 0, 1);
        x.term(4, 0, 1);
        x.open(0, 1, 10, false);
        x.open(1, 3, 20, false);
        x.open(2, 3, 100, false);
        x.open(3, 1, 50, true);
        x.open(4, 1, 0, false);
        x.open(2, 1, 5, false);
        x.paper(1, 0, true);
        x.session(0, 3);
        x.vote(5, 0, 3);
        x.session(0, 1);
        x.vote(2, 1, 0);
        x.board(5, 2, 2, false);
        x.agree(2, 70, 0, 40);
        x.agree(5, 90, 3, -1);
    }
}
