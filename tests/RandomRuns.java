import java.util.Arrays;
import java.util.Random;

/**
 * Runs of 512 calls, drawn from fixed seeds, on the class and on the plain second writing of the document
 * (support/NaiveCouncil.java): every answer of the one must be that of the other.
 */
public final class RandomRuns {
    private static final String[] CALLS = ("days feast workdays person leave feed act strike kind term open paper "
            + "withdraw state matterOf votes elect seat sit session vote sessionOf voids set agree cancel agreementOf "
            + "contract after worth board court deed deedOf hang need wish shifts shiftOf bars study time changed "
            + "weight list right points goes planned plan placeOf put check count").split(" ");

    /** What a run is mostly about: calls that come more often than others. */
    private static final String[] THEMES = {
        "open paper state withdraw days matterOf term feast kind check put session vote voids sessionOf sit",
        "session vote voids board court state days open paper agree worth deed deedOf hang check put",
        "agree agree cancel worth worth contract after agreementOf board court session vote voids open open days count withdraw",
        "deed deedOf hang open paper withdraw session vote voids board court days state count feast",
        "feed act strike kind open days person leave elect votes feed act kind",
        "need wish shifts shiftOf bars set person leave wish wish wish",
        "study time changed weight list right points goes person leave days set",
        "planned plan placeOf set planned planned",
        String.join(" ", CALLS),
    };

    private static final int[] WILD = {-1, -2, -9, 0, 1, 5, 6, 7, 8, 9, 24, 30, 40, 60, 63, 64, 100, 255, 256, 999,
        1000, 1001, 9999, 10000, 1000000, Integer.MAX_VALUE, Integer.MIN_VALUE, -25000, -25001, -15001};

    private final Random random;
    private final WorksCouncil x = new WorksCouncil();
    private final NaiveCouncil y = new NaiveCouncil();
    private final StringBuilder told = new StringBuilder();
    private int calls = 0;
    private int wrong = 0;

    private RandomRuns(long seed) {
        random = new Random(seed);
    }

    public static void main(String[] args) {
        int runs = args.length > 0 ? Integer.parseInt(args[0]) : 270;
        int first = args.length > 1 ? Integer.parseInt(args[1]) : 0;
        int wrong = 0;
        for (int seed = first; seed < first + runs && wrong < 5; seed++) {
            RandomRuns run = new RandomRuns(seed);
            run.go(seed % THEMES.length);
            wrong += run.wrong;
        }
        System.out.println(wrong == 0 ? "random runs: all answers agree" : "random runs: " + wrong + " runs part");
        if (args.length > 2) System.out.println(TALLY.toString().replace("}, ", "}\n"));
        if (wrong != 0) System.exit(1);
    }

    private void go(int theme) {
        setUp(theme);
        String[] often = THEMES[theme].split(" ");
        while (calls < 512 && wrong == 0) {
            String call = random.nextInt(5) == 0 ? CALLS[random.nextInt(CALLS.length)] : often[random.nextInt(often.length)];
            if ((call.equals("plan") || call.equals("placeOf")) && theme != 7 && random.nextInt(4) != 0) continue;
            draw(call);
        }
    }

    private void setUp(int theme) {
        int people = random.nextInt(14);
        int shops = 1 + random.nextInt(3);
        for (int i = 0; i < people; i++) {
            play("person", random.nextInt(shops), -5000 - random.nextInt(3000), -random.nextInt(2000), random.nextInt(10),
                    random.nextInt(101));
        }
        for (int what = 0; what < 8 && theme != 5 && theme != 7; what++) {
            if (random.nextInt(4) != 0) {
                feedText((char) ('A' + what) + "" + (theme == 4 ? random.nextInt(5) : theme == 2 ? 3 : 1 + random.nextInt(4)) + ":1>0");
                play("act", 0);
            }
        }
        for (int kind = 0; kind < 5; kind++) {
            play("term", kind, 0, random.nextInt(2) == 0 ? 0 : 1 << random.nextInt(3));
            play("term", kind, 1, random.nextInt(5));
            play("term", kind, 2, random.nextInt(2));
        }
        if (theme == 2) {
            play("term", 3, 0, 0);
            play("term", 3, 1, random.nextInt(2));
            play("term", 3, 2, 1);
        }
        for (int shop = 0; shop < 6; shop++) play("votes", shop, random.nextInt(4) == 0 ? 0 : random.nextInt(12));
        play("elect", 1 + random.nextInt(6));
        for (int i = 0; i < people && i < 9; i++) play("sit", pick(y.seats.size()), pick(people));
    }

    // ---- what is drawn ----

    private int pick(int n) {
        return random.nextInt(25) == 0 ? WILD[random.nextInt(WILD.length)] : n <= 0 ? 0 : random.nextInt(n);
    }

    private int between(int least, int most) {
        if (random.nextInt(25) == 0) return WILD[random.nextInt(WILD.length)];
        if (random.nextInt(20) == 0) return random.nextBoolean() ? least - random.nextInt(2) : most + random.nextInt(2);
        return least + random.nextInt(most - least + 1);
    }

    private int now(int ahead, int behind) {
        return between(y.day - ahead, y.day + behind);
    }

    private int bit() {
        return random.nextInt(2);
    }

    private int topicShops() {
        return random.nextInt(4) == 0 ? between(1, 63) : 1 + random.nextInt(3);
    }

    private int presentSeats() {
        int set = 0;
        for (int i = 0; i < y.seats.size(); i++) {
            int who = y.seats.get(i)[1];
            if (who >= 0 && !y.people.get(who).left && random.nextInt(5) != 0) set |= 1 << i;
        }
        return random.nextInt(12) == 0 ? pick(64) : set;
    }

    private void draw(String call) {
        int matter = y.matters.isEmpty() ? 0 : random.nextInt(3) == 0 ? y.matters.size() - 1 : random.nextInt(y.matters.size());
        if (random.nextInt(30) == 0) matter = pick(41);
        int what = random.nextInt(3) == 0 ? pick(8) : random.nextInt(3);
        int k = now(4, 0);
        switch (call) {
            case "days": play(call, random.nextInt(12) == 0 ? between(1, 200) : between(1, 3)); break;
            case "feast": play(call, now(5, 20)); break;
            case "workdays": play(call, between(0, 1000), between(0, 1000)); break;
            case "person": if (y.people.size() < 24 || random.nextInt(20) == 0) play(call, random.nextInt(6) == 0 ? pick(7) : random.nextInt(3), between(-25000, -5000),
                    random.nextInt(3) == 0 ? now(30, 0) : between(-15000, y.day), between(0, 9), between(0, 100)); break;
            case "leave": if (random.nextInt(3) == 0) play(call, pick(y.people.size())); break;
            case "feed": case "act": drawAct(); break;
            case "strike": play(call, pick(y.acts.size()), now(0, 5)); break;
            case "kind": play(call, what, topicShops(), between(0, 200), bit(), pick(4)); break;
            case "term": play(call, pick(5), pick(3), random.nextInt(3) == 0 ? between(0, 255) : random.nextInt(6)); break;
            case "open": play(call, what, topicShops(), between(0, 200), bit()); break;
            case "paper": play(call, matter, random.nextInt(5) == 0 ? pick(8) : random.nextInt(3), random.nextInt(4) == 0 ? 0 : 1); break;
            case "withdraw": if (random.nextInt(5) == 0) play(call, matter); break;
            case "state": play(call, matter, random.nextInt(3) == 0 ? k : now(6, 0), k); break;
            case "matterOf": play(call, matter, pick(6)); break;
            case "votes": play(call, pick(6), between(0, 999)); break;
            case "elect": if (random.nextInt(4) == 0) play(call, between(1, 9)); break;
            case "seat": play(call, pick(y.seats.size()), bit()); break;
            case "sit": play(call, pick(y.seats.size()), pick(y.people.size())); break;
            case "session": play(call, now(5, 0), presentSeats()); break;
            case "vote": drawVote(matter); break;
            case "sessionOf": play(call, pick(y.sessions.size()), pick(4)); break;
            case "voids": play(call, pick(y.sessions.size())); break;
            case "set": drawSetting(); break;
            case "agree": play(call, likely(matter, 3, 4, 6, 8), between(0, 9999), now(0, 6), random.nextInt(4) == 0 ? -1 : now(0, 20)); break;
            case "cancel": play(call, pick(y.agreements.size())); break;
            case "agreementOf": play(call, pick(y.agreements.size()), pick(5)); break;
            case "contract": play(call, what, between(-1, 9999), pick(3)); break;
            case "after": play(call, what, bit()); break;
            case "worth": play(call, pick(random.nextInt(3) == 0 ? 6 : 2), what, now(10, 40), bit()); break;
            case "board": play(call, likely(matter, 3, 5, 7), between(0, 2), between(0, 2), bit()); break;
            case "court": play(call, likely(matter, 3, 8, 9)); break;
            case "deed": drawDeed(matter); break;
            case "deedOf": play(call, pick(y.deeds.size()), pick(5)); break;
            case "hang": play(call, pick(y.deeds.size()), between(1, 9999)); break;
            case "need": play(call, pick(3), random.nextInt(3) == 0 ? between(0, 2) : 1); break;
            case "wish": play(call, pick(y.people.size()), pick(4), pick(3), random.nextInt(4) == 0 ? 0 : 1); break;
            case "shifts": play(call, pick(2), pick(8)); break;
            case "shiftOf": play(call, pick(2), pick(8), pick(y.people.size()), pick(4)); break;
            case "bars": play(call, pick(2)); break;
            case "study": play(call, pick(5), between(1, 999)); break;
            case "time": play(call, pick(5), now(5, 3)); break;
            case "changed": play(call, pick(5), between(1, 999), now(5, 3)); break;
            case "weight": play(call, pick(4), between(0, 9)); break;
            case "list": if (random.nextInt(3) == 0) play(call); break;
            case "right": drawRight(); break;
            case "points": play(call, pick(y.people.size())); break;
            case "goes": play(call, pick(3), between(0, 24), between(-1, 8)); break;
            case "planned": if (y.plan.size() < 7 || random.nextInt(40) == 0) play(call, between(1, 3), between(0, 6), random.nextInt(3) == 0 ? pick(64) : pick(1 << y.plan.size())); break;
            case "plan": play(call); break;
            case "placeOf": play(call, pick(y.plan.size())); break;
            case "put": drawRow(); break;
            case "check": play(call, now(3, 0), k); break;
            default: play(call, between(0, 17));
        }
    }

    /** Mostly a matter of such a kind or a greater one whose state now is one of these, if there is one. */
    private int likely(int matter, int kind, Integer... states) {
        if (random.nextInt(8) == 0 || y.matters.isEmpty()) return matter;
        int begin = random.nextInt(y.matters.size());
        for (int i = 0; i < y.matters.size(); i++) {
            int m = (begin + i) % y.matters.size();
            if (y.matters.get(m).kind >= kind && Arrays.asList(states).contains(y.stateNow(y.matters.get(m)))) return m;
        }
        return matter;
    }

    private void drawVote(int any) {
        int matter = likely(any, 2, 2, 3);
        if ((y.sessions.isEmpty() || y.sessions.get(y.sessions.size() - 1).day != y.day) && random.nextInt(5) != 0) {
            if (y.seats.isEmpty() || random.nextInt(8) == 0) play("elect", between(1, 9));
            for (int i = 0; i < y.seats.size(); i++) {
                if (random.nextInt(3) == 0 && !y.people.isEmpty()) play("sit", i, random.nextInt(y.people.size()));
            }
            play("session", now(5, 0), presentSeats());
        }
        NaiveCouncil.Session latest = y.sessions.isEmpty() ? null : y.sessions.get(y.sessions.size() - 1);
        int present = latest == null ? 0 : latest.present;
        int yes = random.nextBoolean() ? present : present & random.nextInt(512);
        int no = present & ~yes & random.nextInt(512);
        if (random.nextInt(12) == 0) yes = pick(64);
        if (random.nextInt(12) == 0) no = pick(64);
        play("vote", matter, yes, no);
    }

    private void drawSetting() {
        int what = pick(5);
        int most = what == 0 ? 20 : what == 1 ? 200 : what == 2 ? 1000 : what == 3 ? 9 : 4;
        play("set", what, random.nextInt(3) == 0 ? between(0, most) : between(what == 3 ? 3 : 0, Math.min(most, 9)));
    }

    private void drawDeed(int matter) {
        if (matter < 0 || matter >= y.matters.size() || random.nextInt(6) == 0) {
            play("deed", random.nextInt(3) == 0 ? matter : -1, pick(8), topicShops(), between(0, 200));
            return;
        }
        NaiveCouncil.Matter m = y.matters.get(matter);
        int shops = random.nextInt(5) == 0 ? pick(64) : m.shops;
        int sum = random.nextInt(5) == 0 ? between(0, 9999) : m.sum;
        play("deed", matter, random.nextInt(9) == 0 ? pick(8) : m.what, shops, sum);
    }

    private void drawRight() {
        int what = pick(2);
        play("right", pick(y.people.size()), what, between(0, what == 0 ? 9 : 100));
    }

    /** Mostly what is so, so that the check gets far into the row. */
    private void drawRow() {
        int i = y.row.size();
        int guess = i < y.matters.size() ? x.state(i, Math.max(y.day, y.matters.get(i).opened), y.day) : 0;
        if (i < y.matters.size()) y.state(i, y.day, y.day);
        calls++;
        play("put", random.nextInt(20) == 0 ? pick(10) : guess);
    }

    private void drawAct() {
        String text = drawText();
        int cut = random.nextInt(40) == 0 ? random.nextInt(text.length() + 1) : text.length();
        feedText(text.substring(0, cut));
        if (random.nextInt(10) != 0) play("act", now(0, random.nextInt(3) == 0 ? 6 : 0));
        if (random.nextInt(10) == 0) play("feed", between(1, 8), random.nextLong());
    }

    private String drawText() {
        int what = random.nextInt(4) == 0 ? random.nextInt(9) : random.nextInt(3);
        StringBuilder text = new StringBuilder().append((char) ('A' + what)).append(random.nextInt(random.nextInt(9) == 0 ? 7 : 5))
                .append(':');
        drawRule(text, 0);
        if (random.nextInt(4) == 0) {
            int at = random.nextInt(text.length());
            String signs = "nwsmcu0123456789!(()|&<=>+-*A:\u00ff";
            char c = signs.charAt(random.nextInt(signs.length()));
            if (random.nextBoolean()) text.setCharAt(at, c);
            else text.insert(at, c);
        }
        if (text.length() > 60) text.setLength(random.nextInt(4) == 0 ? 60 : 3 + random.nextInt(50));
        return text.toString();
    }

    private void drawRule(StringBuilder text, int depth) {
        drawPart(text, depth);
        while (random.nextInt(3) == 0 && text.length() < 48) {
            text.append(random.nextBoolean() ? '|' : '&');
            drawPart(text, depth);
        }
    }

    private void drawPart(StringBuilder text, int depth) {
        int form = random.nextInt(depth > 6 ? 20 : 8);
        if (form == 0) {
            text.append('!');
            drawPart(text, depth + 1);
        } else if (form == 1) {
            text.append('(');
            drawRule(text, depth + 1);
            text.append(')');
        } else {
            drawSum(text);
            text.append("<=>".charAt(random.nextInt(3)));
            drawSum(text);
        }
    }

    private void drawSum(StringBuilder text) {
        do {
            if (random.nextInt(3) == 0) text.append(random.nextInt(random.nextInt(20) == 0 ? 100000 : random.nextInt(3) == 0 ? 10000 : 5));
            else text.append("nwsmcu".charAt(random.nextInt(6)));
            if (random.nextInt(4) != 0) return;
            text.append("+-*".charAt(random.nextInt(3)));
        } while (true);
    }

    private void feedText(String text) {
        for (int i = 0; i < text.length(); i += 8) {
            int n = Math.min(8, text.length() - i);
            long bytes = n < 8 && random.nextBoolean() ? -1L << 8 * n : 0;
            for (int b = 0; b < n; b++) bytes |= (long) (text.charAt(i + b) & 255) << 8 * b;
            play("feed", n, bytes);
        }
    }

    // ---- one call on both ----

    private void play(String call, long... a) {
        if (calls >= 512 || wrong > 0) return;
        calls++;
        int[] p = new int[5];
        for (int i = 0; i < a.length && i < 5; i++) p[i] = (int) a[i];
        told.append(call).append(Arrays.toString(a)).append('\n');
        int got;
        int due;
        switch (call) {
            case "days": got = x.days(p[0]); due = y.days(p[0]); break;
            case "feast": got = x.feast(p[0]); due = y.feast(p[0]); break;
            case "workdays": got = x.workdays(p[0], p[1]); due = y.workdays(p[0], p[1]); break;
            case "person": got = x.person(p[0], p[1], p[2], p[3], p[4]); due = y.person(p[0], p[1], p[2], p[3], p[4]); break;
            case "leave": got = x.leave(p[0]); due = y.leave(p[0]); break;
            case "feed": got = x.feed(p[0], a[1]); due = y.feed(p[0], a[1]); break;
            case "act": got = x.act(p[0]); due = y.act(p[0]); break;
            case "strike": got = x.strike(p[0], p[1]); due = y.strike(p[0], p[1]); break;
            case "kind": got = x.kind(p[0], p[1], p[2], p[3] == 1, p[4]); due = y.kind(p[0], p[1], p[2], p[3] == 1, p[4]); break;
            case "term": got = x.term(p[0], p[1], p[2]); due = y.term(p[0], p[1], p[2]); break;
            case "open": got = x.open(p[0], p[1], p[2], p[3] == 1); due = y.open(p[0], p[1], p[2], p[3] == 1); break;
            case "paper": got = x.paper(p[0], p[1], p[2] == 1); due = y.paper(p[0], p[1], p[2] == 1); break;
            case "withdraw": got = x.withdraw(p[0]); due = y.withdraw(p[0]); break;
            case "state": got = x.state(p[0], p[1], p[2]); due = y.state(p[0], p[1], p[2]); break;
            case "matterOf": got = x.matterOf(p[0], p[1]); due = y.matterOf(p[0], p[1]); break;
            case "votes": got = x.votes(p[0], p[1]); due = y.votes(p[0], p[1]); break;
            case "elect": got = x.elect(p[0]); due = y.elect(p[0]); break;
            case "seat": got = x.seat(p[0], p[1]); due = y.seat(p[0], p[1]); break;
            case "sit": got = x.sit(p[0], p[1]); due = y.sit(p[0], p[1]); break;
            case "session": got = x.session(p[0], p[1]); due = y.session(p[0], p[1]); break;
            case "vote": got = x.vote(p[0], p[1], p[2]); due = y.vote(p[0], p[1], p[2]); break;
            case "sessionOf": got = x.sessionOf(p[0], p[1]); due = y.sessionOf(p[0], p[1]); break;
            case "voids": got = x.voids(p[0]); due = y.voids(p[0]); break;
            case "set": got = x.set(p[0], p[1]); due = y.set(p[0], p[1]); break;
            case "agree": got = x.agree(p[0], p[1], p[2], p[3]); due = y.agree(p[0], p[1], p[2], p[3]); break;
            case "cancel": got = x.cancel(p[0]); due = y.cancel(p[0]); break;
            case "agreementOf": got = x.agreementOf(p[0], p[1]); due = y.agreementOf(p[0], p[1]); break;
            case "contract": got = x.contract(p[0], p[1], p[2]); due = y.contract(p[0], p[1], p[2]); break;
            case "after": got = x.after(p[0], p[1] == 1); due = y.after(p[0], p[1] == 1); break;
            case "worth": got = x.worth(p[0], p[1], p[2], p[3]); due = y.worth(p[0], p[1], p[2], p[3]); break;
            case "board": got = x.board(p[0], p[1], p[2], p[3] == 1); due = y.board(p[0], p[1], p[2], p[3] == 1); break;
            case "court": got = x.court(p[0]); due = y.court(p[0]); break;
            case "deed": got = x.deed(p[0], p[1], p[2], p[3]); due = y.deed(p[0], p[1], p[2], p[3]); break;
            case "deedOf": got = x.deedOf(p[0], p[1]); due = y.deedOf(p[0], p[1]); break;
            case "hang": got = x.hang(p[0], p[1]); due = y.hang(p[0], p[1]); break;
            case "need": got = x.need(p[0], p[1]); due = y.need(p[0], p[1]); break;
            case "wish": got = x.wish(p[0], p[1], p[2], p[3] == 1); due = y.wish(p[0], p[1], p[2], p[3] == 1); break;
            case "shifts": got = x.shifts(p[0], p[1]); due = y.shifts(p[0], p[1]); break;
            case "shiftOf": got = x.shiftOf(p[0], p[1], p[2], p[3]); due = y.shiftOf(p[0], p[1], p[2], p[3]); break;
            case "bars": got = x.bars(p[0]); due = y.bars(p[0]); break;
            case "study": got = x.study(p[0], p[1]); due = y.study(p[0], p[1]); break;
            case "time": got = x.time(p[0], p[1]); due = y.time(p[0], p[1]); break;
            case "changed": got = x.changed(p[0], p[1], p[2]); due = y.changed(p[0], p[1], p[2]); break;
            case "weight": got = x.weight(p[0], p[1]); due = y.weight(p[0], p[1]); break;
            case "list": got = x.list(); due = y.list(); break;
            case "right": got = x.right(p[0], p[1], p[2]); due = y.right(p[0], p[1], p[2]); break;
            case "points": got = x.points(p[0]); due = y.points(p[0]); break;
            case "goes": got = x.goes(p[0], p[1], p[2]); due = y.goes(p[0], p[1], p[2]); break;
            case "planned": got = x.planned(p[0], p[1], p[2]); due = y.planned(p[0], p[1], p[2]); break;
            case "plan": got = x.plan(); due = y.plan(); break;
            case "placeOf": got = x.placeOf(p[0]); due = y.placeOf(p[0]); break;
            case "put": got = x.put(p[0]); due = y.put(p[0]); break;
            case "check": got = x.check(p[0], p[1]); due = y.check(p[0], p[1]); break;
            case "count": got = x.count(p[0]); due = y.count(p[0]); break;
            default: throw new IllegalStateException(call);
        }
        tally(call, due);
        if (got != due) {
            wrong++;
            System.out.println(told + "answered " + got + ", due is " + due);
        }
    }

    static final java.util.TreeMap<String, java.util.TreeMap<Integer, Integer>> TALLY = new java.util.TreeMap<>();

    private static void tally(String call, int due) {
        TALLY.computeIfAbsent(call, c -> new java.util.TreeMap<>()).merge(due, 1, Integer::sum);
    }
}
