import java.util.Arrays;

/**
 * Looks at all that can be seen of an object. An object is good for 512 calls, and some things are seen only by calls
 * that change them, so a look is at a part, and at an object that is not used any more behind it.
 */
final class Look {
    static final int PARTS = 8;

    private final WorksCouncil x;
    private final int now;
    private int[] seen = new int[512];
    private int size = 0;

    private Look(WorksCouncil x) {
        this.x = x;
        now = x.count(0);
    }

    /** The first 17 of part 0 are the counts. */
    static int[] at(WorksCouncil x, int part) {
        Look look = new Look(x);
        switch (part) {
            case 0 -> look.countsAndSettings();
            case 1 -> look.people();
            case 2 -> look.daysAndActs();
            case 3 -> look.matters();
            case 4 -> look.sessionsAndAgreements();
            case 5 -> look.deeds();
            case 6 -> look.worths();
            default -> look.shiftsAndPlans();
        }
        return Arrays.copyOf(look.seen, look.size);
    }

    private void see(int answer) {
        if (size == seen.length) seen = Arrays.copyOf(seen, 2 * size);
        seen[size] = answer;
        size++;
    }

    private void countsAndSettings() {
        for (int what = 0; what <= 16; what++) see(x.count(what));
        for (int seat = 0; seat < x.count(4); seat++) for (int what = 0; what < 2; what++) see(x.seat(seat, what));
        for (int shop = 0; shop < 6; shop++) see(x.votes(shop, 0));
        for (int which = 0; which < 4; which++) see(x.weight(which, 0));
        for (int shift = 0; shift < 3; shift++) see(x.need(shift, 0));
        for (int what = 0; what < 5; what++) see(x.set(what, 3));
        for (int kind = 0; kind < 5; kind++) for (int what = 0; what < 3; what++) see(x.term(kind, what, 0));
        for (int what = 0; what < 8; what++) see(x.contract(what, 0, 0));
        for (int what = 0; what < 8; what++) see(x.after(what, true));
    }

    private void people() {
        for (int p = 0; p < 24; p++) see(x.points(p));
        for (int shop = 0; shop < 6; shop++) for (int i = 0; i < 6; i++) see(x.goes(shop, 24, i));
        for (int p = 0; p < 24; p++) see(x.leave(p));
        x.list();
        for (int p = 0; p < 24; p++) for (int what = 0; what < 2; what++) see(x.right(p, what, 0));
        see(x.person(0, -9000, 0, 0, 0));
    }

    private void daysAndActs() {
        for (int day = 0; day < 24; day++) see(x.workdays(day, day + 1));
        see(x.workdays(0, 1000));
        for (int day = 995; day <= 1000; day++) see(x.feast(day));
        for (int day = 0; day < 24; day++) see(x.feast(day));
        for (int theWhat = 0; theWhat < 8; theWhat++) {
            for (int what = 0; what < 4; what++) {
                see(x.kind(theWhat, 1, 0, false, what));
                see(x.kind(theWhat, 63, 9999, true, what));
            }
        }
        see(x.act(now));
        see(x.count(9));
        for (int theWhat = 0; theWhat < 8; theWhat++) see(x.kind(theWhat, 1, 0, false, 1));
        for (int act = 0; act < x.count(2); act++) see(x.strike(act, now));
    }

    private void matters() {
        int matters = x.count(3);
        for (int m = 0; m < matters; m++) {
            for (int what = 0; what < 6; what++) see(x.matterOf(m, what));
            see(x.state(m, now, now));
        }
        for (int m = 0; m < matters && m < 8; m++) {
            int opened = x.matterOf(m, 1);
            for (int day = opened; day <= now && day < opened + 8; day++) {
                see(x.state(m, day, now));
                see(x.state(m, day, day));
            }
            for (int p = 0; p < 8; p++) see(x.paper(m, p, false));
        }
    }

    private void sessionsAndAgreements() {
        for (int s = 0; s < x.count(5); s++) for (int what = 0; what < 4; what++) see(x.sessionOf(s, what));
        for (int a = 0; a < x.count(6) + 4; a++) {
            for (int what = 0; what < 5; what++) see(x.agreementOf(a, what));
            see(x.cancel(a));
        }
        for (int s = 0; s < x.count(5); s++) see(x.voids(s));
        see(x.session(now, 0));
    }

    private void deeds() {
        for (int d = 0; d < x.count(7); d++) for (int what = 0; what < 5; what++) see(x.deedOf(d, what));
        for (int d = 0; d < x.count(7); d++) see(x.hang(d, 1));
        for (int d = 0; d < x.count(7); d++) see(x.deedOf(d, 3));
    }

    private void worths() {
        int[] days = {0, now, now + 5, 60, 1000};
        for (int theWhat = 0; theWhat < 8; theWhat++) {
            for (int day : days) {
                see(x.worth(0, theWhat, day, 0));
                see(x.worth(1, theWhat, day, 1));
                see(x.worth(5, theWhat, day, 1));
            }
        }
    }

    private void shiftsAndPlans() {
        for (int rules = 0; rules < 8; rules += 7) {
            for (int shop = 0; shop < 6; shop++) see(x.shifts(shop, rules));
            for (int p = 0; p < 4; p++) for (int day = 0; day < 4; day++) see(x.shiftOf(0, rules, p, day));
        }
        see(x.bars(0));
        for (int piece = 0; piece < 5; piece++) {
            for (int day = 0; day <= 2; day++) see(x.time(piece, day));
            see(x.study(piece, 1));
        }
        see(x.plan());
        for (int i = 0; i < 7; i++) see(x.placeOf(i));
        see(x.planned(1, 0, 0));
        see(x.check(now, now));
        for (int p = 0; p < 8; p++) {
            for (int day = 0; day < 4; day++) for (int shift = 0; shift < 3; shift++) see(x.wish(p, day, shift, true));
        }
    }
}
