import java.util.ArrayList;
import java.util.Arrays;
import java.util.List;

/**
 * The document written down a second time, as plainly as it goes and without a thought for speed: days are walked
 * through one by one, shifts and plans are all tried, texts are read by a stack. RandomRuns holds the class against it.
 */
final class NaiveCouncil {
    private static final int FAR = 1000000000;

    static final class Person {
        int shop, born, came, children, hurt, listedChildren, listedHurt;
        boolean left;
        boolean[][] wish = new boolean[4][3];
    }

    static final class Act {
        String text;
        int from;
        Integer struck;
    }

    static final class Telling {
        String what;
        int day, paper;
        boolean yes;
        Session session;
    }

    static final class Session {
        int day, present;
        boolean right;
        Integer voided;
    }

    static final class Matter {
        int what, shops, sum, kind, act, opened, needs, span, silence;
        List<Telling> tellings = new ArrayList<>();
    }

    static final class Agreement {
        int matter, value, from, end, made;
        boolean cancelled;
    }

    static final class Deed {
        int matter, day, shops, sum, kindThen;
        List<int[]> hung = new ArrayList<>();
    }

    int day;
    boolean[] feasts = new boolean[1001];
    List<Person> people = new ArrayList<>();
    StringBuilder text = new StringBuilder();
    List<Act> acts = new ArrayList<>();
    int[][] terms = {{0, 5, 0}, {0, 5, 1}, {0, 5, 1}, {0, 5, 0}, {0, 5, 0}};
    List<Matter> matters = new ArrayList<>();
    int[] votes = new int[6];
    List<int[]> seats = new ArrayList<>();
    List<Session> sessions = new ArrayList<>();
    int[] settings = {3, 30, 14, 3, 3};
    List<Agreement> agreements = new ArrayList<>();
    int[][] contracts = new int[8][];
    boolean[] after = new boolean[8];
    List<Deed> deeds = new ArrayList<>();
    int[] need = {1, 1, 1};
    List<List<int[]>> studies = new ArrayList<>();
    int[] weights = {1, 1, 1, 1};
    Integer listDay;
    List<int[]> plan = new ArrayList<>();
    List<Integer> row = new ArrayList<>();
    int[] refused = new int[7];

    NaiveCouncil() {
        for (int i = 0; i < 5; i++) {
            studies.add(new ArrayList<>());
        }
    }

    // ---- refusals ----

    private int no(int number) {
        refused[-number]++;
        return number;
    }

    /** The first refusal of a list of pairs (a number, 1 if it fits), or 0. */
    private int first(Object... pairs) {
        for (int i = 0; i < pairs.length; i += 2) {
            if ((Boolean) pairs[i + 1]) {
                return no((Integer) pairs[i]);
            }
        }
        return 0;
    }

    private static boolean out(int v, int least, int most) {
        return v < least || v > most;
    }

    private boolean noMatter(int m) {
        return out(m, 0, matters.size() - 1);
    }

    private boolean noPerson(int p) {
        return out(p, 0, people.size() - 1);
    }

    private boolean isHere(int p) {
        return !noPerson(p) && !people.get(p).left;
    }

    // ---- days and people ----

    int days(int n) {
        int r = first(-4, n < 1, -6, (long) day + n > 1000);
        if (r != 0) return r;
        day += n;
        return day;
    }

    int feast(int d) {
        int r = first(-4, d < 0, -6, d > 1000);
        if (r != 0) return r;
        boolean was = feasts[d];
        feasts[d] = true;
        return was ? 0 : 1;
    }

    private boolean workday(int d) {
        return d % 7 < 5 && !feasts[d];
    }

    private int between(int from, int to) {
        int n = 0;
        for (int d = from + 1; d <= to; d++) n += workday(d) ? 1 : 0;
        return n;
    }

    int workdays(int from, int to) {
        int r = first(-4, from < 0 || to < 0, -6, from > 1000 || to > 1000);
        return r != 0 ? r : between(from, to);
    }

    int person(int shop, int born, int came, int children, int hurt) {
        int r = first(-1, out(shop, 0, 5),
                -4, born < -25000 || came < -15000 || children < 0 || hurt < 0,
                -6, born > -5000 || came > day || children > 9 || hurt > 100 || people.size() == 24);
        if (r != 0) return r;
        Person p = new Person();
        p.shop = shop;
        p.born = born;
        p.came = came;
        p.children = p.listedChildren = children;
        p.hurt = p.listedHurt = hurt;
        people.add(p);
        return people.size() - 1;
    }

    int leave(int p) {
        int r = first(-1, noPerson(p), -3, !noPerson(p) && people.get(p).left);
        if (r != 0) return r;
        people.get(p).left = true;
        return 1;
    }

    // ---- acts ----

    int feed(int n, long bytes) {
        int r = first(-4, n < 1, -6, n > 8 || text.length() + n > 60);
        if (r != 0) return r;
        for (int i = 0; i < n; i++) {
            text.append((char) (bytes & 255));
            bytes >>>= 8;
        }
        return text.length();
    }

    int act(int from) {
        int r = first(-4, from < day, -6, from > 1000 || acts.size() == 24);
        if (r != 0) return r;
        String t = text.toString();
        text.setLength(0);
        int fault = fault(t);
        if (fault >= 0) return -20 - fault;
        Act a = new Act();
        a.text = t;
        a.from = from;
        acts.add(a);
        return acts.size() - 1;
    }

    /** By a stack of what is open: the place of the first sign that can not stand, -1 if the text is whole. */
    static int fault(String t) {
        if (t.length() < 1 || "ABCDEFGH".indexOf(t.charAt(0)) < 0) return 0;
        if (t.length() < 2 || "01234".indexOf(t.charAt(1)) < 0) return 1;
        if (t.length() < 3 || t.charAt(2) != ':') return 2;
        StringBuilder open = new StringBuilder();
        // 0: a part is to begin, 1: a unit is to come, 2: within or behind a number, 3: behind a fact, 4: behind ")"
        int mode = 0;
        int digits = 0;
        boolean right = false;
        for (int i = 3; i <= t.length(); i++) {
            int c = i < t.length() ? t.charAt(i) : -1;
            boolean digit = c >= '0' && c <= '9';
            boolean fact = c > 0 && "nwsmcu".indexOf(c) >= 0;
            if (mode == 0 && (c == '!' || c == '(')) {
                if (open.length() == 5) return i;
                open.append((char) c);
                continue;
            }
            if (mode == 0 || mode == 1) {
                if (!digit && !fact) return i;
                if (mode == 0) right = false;
                mode = digit ? 2 : 3;
                digits = 1;
                continue;
            }
            if (mode == 2 && digit && digits < 4) {
                digits++;
                continue;
            }
            if (mode != 4 && (c == '+' || c == '-' || c == '*')) {
                mode = 1;
                continue;
            }
            if (mode != 4 && !right && (c == '<' || c == '=' || c == '>')) {
                right = true;
                mode = 1;
                continue;
            }
            if (mode != 4 && !right) return i;
            // here a part has ended
            while (open.length() > 0 && open.charAt(open.length() - 1) == '!') open.setLength(open.length() - 1);
            if (c == '|' || c == '&') {
                mode = 0;
            } else if (c == ')' && open.length() > 0) {
                open.setLength(open.length() - 1);
                mode = 4;
            } else if (c == -1 && open.length() == 0) {
                return -1;
            } else {
                return i;
            }
        }
        throw new IllegalStateException();
    }

    /** Cuts a rule that has no fault at its outermost signs. */
    private static List<String> cut(String rule, char sign) {
        List<String> parts = new ArrayList<>();
        int depth = 0;
        int begin = 0;
        for (int i = 0; i < rule.length(); i++) {
            char c = rule.charAt(i);
            depth += c == '(' ? 1 : c == ')' ? -1 : 0;
            if (depth == 0 && c == sign) {
                parts.add(rule.substring(begin, i));
                begin = i + 1;
            }
        }
        parts.add(rule.substring(begin));
        return parts;
    }

    private static boolean holds(String rule, int[] facts) {
        List<String> or = cut(rule, '|');
        if (or.size() > 1) return or.stream().anyMatch(x -> holds(x, facts));
        List<String> and = cut(rule, '&');
        if (and.size() > 1) return and.stream().allMatch(x -> holds(x, facts));
        if (rule.charAt(0) == '!') return !holds(rule.substring(1), facts);
        if (rule.charAt(0) == '(') return holds(rule.substring(1, rule.length() - 1), facts);
        String[] sides = rule.split("[<=>]");
        int a = sum(sides[0], facts);
        int b = sum(sides[1], facts);
        char op = rule.charAt(sides[0].length());
        return op == '<' ? a < b : op == '=' ? a == b : a > b;
    }

    private static int sum(String s, int[] facts) {
        String[] units = s.split("[-+*]");
        int value = 0;
        int at = 0;
        for (int i = 0; i < units.length; i++) {
            int fact = "nwsmcu".indexOf(units[i].charAt(0));
            int v = fact >= 0 ? facts[fact] : Integer.parseInt(units[i]);
            char op = i == 0 ? '+' : s.charAt(at - 1);
            value = op == '+' ? value + v : op == '-' ? value - v : value * v;
            at += units[i].length() + 1;
        }
        return value;
    }

    private int hereIn(int shops) {
        int n = 0;
        for (Person p : people) n += !p.left && (shops & 1 << p.shop) != 0 ? 1 : 0;
        return n;
    }

    private List<Integer> bearing(int what, int shops, int sum, boolean urgent) {
        int[] facts = {hereIn(shops), hereIn(63), Integer.bitCount(shops), sum, seats.size(), urgent ? 1 : 0};
        List<Integer> found = new ArrayList<>();
        for (int i = 0; i < acts.size(); i++) {
            Act a = acts.get(i);
            if (a.text.charAt(0) - 'A' == what && a.from <= day && (a.struck == null || day < a.struck)
                    && holds(a.text.substring(3), facts)) found.add(i);
        }
        return found;
    }

    private int kindOf(int act) {
        return acts.get(act).text.charAt(1) - '0';
    }

    private int giver(int what, int shops, int sum, boolean urgent) {
        int best = -9;
        for (int a : bearing(what, shops, sum, urgent)) {
            if (best == -9 || acts.get(a).from >= acts.get(best).from) best = a;
        }
        return best;
    }

    int strike(int act, int from) {
        int r = first(-1, out(act, 0, acts.size() - 1));
        if (r != 0) return r;
        r = first(-3, acts.get(act).struck != null, -4, from < day, -6, from > 1000);
        if (r != 0) return r;
        acts.get(act).struck = from;
        return 1;
    }

    int kind(int theWhat, int shops, int sum, boolean urgent, int what) {
        int r = first(-2, out(theWhat, 0, 7) || out(what, 0, 3), -4, shops < 1 || sum < 0,
                -6, shops > 63 || sum > 9999);
        if (r != 0) return r;
        int giver = giver(theWhat, shops, sum, urgent);
        if (what == 0) return giver == -9 ? 0 : kindOf(giver);
        if (what == 1) return giver;
        List<Integer> all = bearing(theWhat, shops, sum, urgent);
        for (int a : all) {
            for (int b : all) {
                if (kindOf(a) != kindOf(b)) return what == 2 ? a : b;
            }
        }
        return -9;
    }

    int term(int kind, int what, int v) {
        int r = first(-2, out(kind, 0, 4) || out(what, 0, 2), -4, v < 0);
        if (r != 0) return r;
        r = first(-6, v > new int[] {255, 30, 1}[what]);
        if (r != 0) return r;
        int was = terms[kind][what];
        terms[kind][what] = v;
        return was;
    }

    // ---- matters ----

    int open(int what, int shops, int sum, boolean urgent) {
        int r = first(-2, out(what, 0, 7), -4, shops < 1 || sum < 0,
                -6, shops > 63 || sum > 9999 || matters.size() == 40);
        if (r != 0) return r;
        Matter m = new Matter();
        m.what = what;
        m.shops = shops;
        m.sum = sum;
        m.act = giver(what, shops, sum, urgent);
        m.kind = m.act == -9 ? 0 : kindOf(m.act);
        m.opened = day;
        m.needs = terms[m.kind][0];
        m.span = terms[m.kind][1];
        m.silence = terms[m.kind][2];
        matters.add(m);
        return matters.size() - 1;
    }

    private Telling tell(Matter m, String what) {
        Telling t = new Telling();
        t.what = what;
        t.day = day;
        m.tellings.add(t);
        return t;
    }

    private boolean counts(Matter m, int i, int k) {
        Telling t = m.tellings.get(i);
        if (t.what.equals("answer")) return t.session.voided == null || t.session.voided > k;
        String undoing = t.what.equals("paper") ? "not whole" : t.what.equals("ruled") ? "fallen" : "";
        for (int l = i + 1; l < m.tellings.size(); l++) {
            Telling later = m.tellings.get(l);
            if (later.what.equals(undoing) && later.day <= k
                    && (later.what.equals("fallen") || later.paper == t.paper)) return false;
        }
        return true;
    }

    private List<Telling> counting(Matter m, String what, int j, int k) {
        List<Telling> found = new ArrayList<>();
        for (int i = 0; i < m.tellings.size(); i++) {
            Telling t = m.tellings.get(i);
            if (t.what.equals(what) && t.day <= j && counts(m, i, k)) found.add(t);
        }
        return found;
    }

    private int whole(Matter m, int j, int k) {
        List<Telling> papers = counting(m, "paper", j, k);
        for (int d = m.opened; d <= j; d++) {
            int given = 0;
            for (Telling t : papers) if (t.day <= d) given |= 1 << t.paper;
            if ((m.needs & ~given) == 0) return d;
        }
        return -9;
    }

    private int stateOf(Matter m, int j, int k) {
        if (!counting(m, "withdrawn", j, k).isEmpty()) return 1;
        if (m.kind == 0) return 0;
        List<Telling> ruled = counting(m, "ruled", j, k);
        if (!ruled.isEmpty()) return ruled.get(ruled.size() - 1).yes ? 8 : 9;
        List<Telling> answers = counting(m, "answer", j, k);
        if (!answers.isEmpty()) return answers.get(answers.size() - 1).yes ? 4 : 5;
        int since = whole(m, j, k);
        if (since == -9) return 2;
        if (m.kind == 1) return 6;
        if (between(since, j) > m.span) return m.silence == 1 ? 6 : 7;
        return 3;
    }

    int stateNow(Matter m) {
        return stateOf(m, day, day);
    }

    private static boolean lets(Matter m, int state) {
        List<List<Integer>> table = List.of(List.of(0), List.of(6), List.of(4, 5, 6), List.of(4, 6, 8),
                List.of(2, 3, 4, 6, 8));
        return table.get(m.kind).contains(state);
    }

    private boolean withdrawn(Matter m) {
        return !counting(m, "withdrawn", day, day).isEmpty();
    }

    private boolean full(Matter m) {
        return m.tellings.size() == 30;
    }

    int paper(int matter, int p, boolean whole) {
        int r = first(-1, noMatter(matter) || out(p, 0, 7));
        if (r != 0) return r;
        Matter m = matters.get(matter);
        boolean given = counting(m, "paper", day, day).stream().anyMatch(t -> t.paper == p);
        r = first(-3, withdrawn(m) || !whole && !given, -6, full(m));
        if (r != 0) return r;
        tell(m, whole ? "paper" : "not whole").paper = p;
        return m.tellings.size();
    }

    int withdraw(int matter) {
        int r = first(-1, noMatter(matter));
        if (r != 0) return r;
        r = first(-3, withdrawn(matters.get(matter)), -6, full(matters.get(matter)));
        if (r != 0) return r;
        tell(matters.get(matter), "withdrawn");
        return 1;
    }

    int state(int matter, int j, int k) {
        int r = first(-1, noMatter(matter), -4, j < 0 || k < 0);
        if (r != 0) return r;
        r = first(-3, j < matters.get(matter).opened || j > k || k > day);
        return r != 0 ? r : stateOf(matters.get(matter), j, k);
    }

    int matterOf(int matter, int what) {
        int r = first(-1, noMatter(matter), -2, out(what, 0, 5));
        if (r != 0) return r;
        Matter m = matters.get(matter);
        int[] answers = {m.kind, m.opened, whole(m, day, day), lets(m, stateNow(m)) ? 1 : 0, m.tellings.size(), m.act};
        return answers[what];
    }

    // ---- seats and sessions ----

    int votes(int shop, int n) {
        int r = first(-1, out(shop, 0, 5), -4, n < 0, -6, n > 999);
        if (r != 0) return r;
        int was = votes[shop];
        votes[shop] = n;
        return was;
    }

    int elect(int n) {
        int r = first(-4, n < 1, -6, n > 9);
        if (r != 0) return r;
        seats.clear();
        if (Arrays.stream(votes).sum() == 0) return 0;
        for (int i = 0; i < n; i++) {
            int best = -1;
            double bestShare = 0;
            for (int shop = 0; shop < 6; shop++) {
                int has = 1;
                for (int[] seat : seats) has += seat[0] == shop ? 1 : 0;
                double share = votes[shop] * 2520.0 / has;
                if (share > bestShare + 0.001) {
                    best = shop;
                    bestShare = share;
                }
            }
            seats.add(new int[] {best, -9});
        }
        return n;
    }

    int seat(int seat, int what) {
        int r = first(-1, out(seat, 0, seats.size() - 1), -2, out(what, 0, 1));
        return r != 0 ? r : seats.get(seat)[what];
    }

    int sit(int seat, int person) {
        int r = first(-1, out(seat, 0, seats.size() - 1) || noPerson(person));
        if (r != 0) return r;
        boolean elsewhere = false;
        for (int i = 0; i < seats.size(); i++) elsewhere |= i != seat && seats.get(i)[1] == person;
        r = first(-3, !isHere(person) || people.get(person).shop != seats.get(seat)[0] || elsewhere);
        if (r != 0) return r;
        seats.get(seat)[1] = person;
        return 1;
    }

    int session(int called, int present) {
        int r = first(-4, called < 0 || present < 0);
        if (r != 0) return r;
        boolean wrong = called > day;
        for (int i = 0; i < 31; i++) {
            if ((present & 1 << i) != 0) wrong |= i >= seats.size() || !isHere(seats.get(i)[1]);
        }
        r = first(-3, wrong, -6, sessions.size() == 30);
        if (r != 0) return r;
        Session s = new Session();
        s.day = day;
        s.present = present;
        s.right = day - called >= settings[0] && Integer.bitCount(present) > seats.size() / 2.0;
        sessions.add(s);
        return sessions.size() - 1;
    }

    int vote(int matter, int yes, int no) {
        int r = first(-1, noMatter(matter));
        if (r != 0) return r;
        Matter m = matters.get(matter);
        Session s = sessions.isEmpty() ? null : sessions.get(sessions.size() - 1);
        boolean wrong = s == null || s.day != day || m.kind < 2 || stateNow(m) != 2 && stateNow(m) != 3;
        for (int i = 0; i < 32 && !wrong; i++) {
            boolean y = (yes >>> i & 1) == 1;
            boolean n = (no >>> i & 1) == 1;
            wrong = y && n || (y || n) && (s.present >>> i & 1) == 0;
        }
        r = first(-3, wrong, -6, full(m));
        if (r != 0) return r;
        Telling t = tell(m, "answer");
        t.session = s;
        t.yes = Integer.bitCount(yes) > Integer.bitCount(s.present) / 2.0;
        return t.yes ? 1 : 0;
    }

    int sessionOf(int session, int what) {
        int r = first(-1, out(session, 0, sessions.size() - 1), -2, out(what, 0, 3));
        if (r != 0) return r;
        Session s = sessions.get(session);
        return new int[] {s.day, s.present, s.right ? 1 : 0, s.voided != null ? 1 : 0}[what];
    }

    int voids(int session) {
        int r = first(-1, out(session, 0, sessions.size() - 1));
        if (r != 0) return r;
        Session s = sessions.get(session);
        r = first(-3, s.right || s.voided != null);
        if (r != 0) return r;
        s.voided = day;
        int n = 0;
        for (Matter m : matters) for (Telling t : m.tellings) n += t.session == s ? 1 : 0;
        return n;
    }

    int set(int what, int v) {
        int r = first(-2, out(what, 0, 4));
        if (r != 0) return r;
        r = first(-4, v < (what == 3 ? 3 : 0), -6, v > new int[] {20, 200, 1000, 9, 4}[what]);
        if (r != 0) return r;
        int was = settings[what];
        settings[what] = v;
        return was;
    }

    // ---- agreements ----

    int agree(int matter, int value, int from, int to) {
        int r = first(-1, noMatter(matter));
        if (r != 0) return r;
        Matter m = matters.get(matter);
        r = first(-3, m.kind != 3 || !List.of(4, 6, 8).contains(stateNow(m))
                || agreements.stream().anyMatch(a -> a.matter == matter),
                -4, value < 0 || from < day || to < from && to != -1,
                -6, value > 9999 || from > 1000 || to > 1000 || agreements.size() == 30);
        if (r != 0) return r;
        Agreement a = new Agreement();
        a.matter = matter;
        a.value = value;
        a.from = from;
        a.end = to == -1 ? 1000000 : to;
        a.made = day;
        agreements.add(a);
        return agreements.size() - 1;
    }

    int cancel(int agreement) {
        int r = first(-1, out(agreement, 0, agreements.size() - 1));
        if (r != 0) return r;
        Agreement a = agreements.get(agreement);
        r = first(-3, a.cancelled);
        if (r != 0) return r;
        a.cancelled = true;
        if (a.end > day + settings[1]) a.end = day + settings[1];
        return a.end;
    }

    private boolean stands(Agreement a) {
        return List.of(4, 6, 8).contains(stateOf(matters.get(a.matter), a.made, day));
    }

    int agreementOf(int agreement, int what) {
        int r = first(-1, out(agreement, 0, agreements.size() - 1), -2, out(what, 0, 4));
        if (r != 0) return r;
        Agreement a = agreements.get(agreement);
        return new int[] {a.matter, a.value, a.from, a.end, stands(a) ? 1 : 0}[what];
    }

    int contract(int what, int value, int let) {
        int r = first(-2, out(what, 0, 7) || out(let, 0, 2), -4, value < -1, -6, value > 9999);
        if (r != 0) return FAR - r;
        int was = contracts[what] == null ? -1 : contracts[what][0];
        contracts[what] = value == -1 ? null : new int[] {value, let};
        return was;
    }

    int after(int what, boolean on) {
        int r = first(-2, out(what, 0, 7));
        if (r != 0) return r;
        boolean was = after[what];
        after[what] = on;
        return was == on ? 0 : 1;
    }

    int worth(int shop, int theWhat, int d, int what) {
        int r = first(-1, out(shop, 0, 5), -2, out(theWhat, 0, 7) || out(what, 0, 1), -4, d < 0, -6, d > 1000);
        if (r != 0) return r;
        int a = -9;
        int last = -9;
        for (int i = 0; i < agreements.size(); i++) {
            Agreement x = agreements.get(i);
            Matter m = matters.get(x.matter);
            if (!stands(x) || m.what != theWhat || (m.shops & 1 << shop) == 0) continue;
            if (x.from <= d && d <= x.end && (a == -9 || x.from >= agreements.get(a).from)) a = i;
            if (x.from <= x.end && x.end < d && (last == -9 || x.end >= agreements.get(last).end)) last = i;
        }
        if (a == -9 && after[theWhat]) a = last;
        if (what == 1) return a;
        int[] own = contracts[theWhat];
        if (own == null) return a == -9 ? -9 : agreements.get(a).value;
        if (own[1] == 0 || a == -9) return own[0];
        return own[1] == 1 ? Math.max(own[0], agreements.get(a).value) : agreements.get(a).value;
    }

    // ---- board, court, deeds ----

    int board(int matter, int firm, int council, boolean chair) {
        int r = first(-1, noMatter(matter));
        if (r != 0) return r;
        Matter m = matters.get(matter);
        r = first(-3, m.kind < 3 || stateNow(m) != 5 && stateNow(m) != 7, -4, firm < 0 || council < 0,
                -6, firm > 2 || council > 2 || full(m));
        if (r != 0) return r;
        Telling t = tell(m, "ruled");
        t.yes = firm + council + (chair ? 1 : 0) > 2;
        return t.yes ? 1 : 0;
    }

    int court(int matter) {
        int r = first(-1, noMatter(matter));
        if (r != 0) return r;
        Matter m = matters.get(matter);
        r = first(-3, counting(m, "ruled", day, day).isEmpty(), -6, full(m));
        if (r != 0) return r;
        tell(m, "fallen");
        return 1;
    }

    int deed(int matter, int what, int shops, int sum) {
        int r = first(-1, matter != -1 && noMatter(matter), -2, out(what, 0, 7));
        if (r != 0) return r;
        r = first(-3, matter != -1 && matters.get(matter).what != what, -4, shops < 1 || sum < 0,
                -6, shops > 63 || sum > 9999 || deeds.size() == 60);
        if (r != 0) return r;
        Deed d = new Deed();
        d.matter = matter;
        d.day = day;
        d.shops = shops;
        d.sum = sum;
        int giver = giver(what, shops, sum, false);
        d.kindThen = giver == -9 ? 0 : kindOf(giver);
        deeds.add(d);
        return deeds.size() - 1;
    }

    private int voidSince(Deed d) {
        if (d.matter == -1) return d.kindThen > 0 ? d.day : -9;
        Matter m = matters.get(d.matter);
        if ((d.shops & ~m.shops) != 0 || d.sum > m.sum) return d.day;
        for (int j = d.day; j <= (m.kind == 4 ? day : d.day); j++) {
            if (!lets(m, stateOf(m, j, day))) return j;
        }
        return -9;
    }

    int deedOf(int deed, int what) {
        int r = first(-1, out(deed, 0, deeds.size() - 1), -2, out(what, 0, 4));
        if (r != 0) return FAR - r;
        Deed d = deeds.get(deed);
        int since = voidSince(d);
        int all = 0;
        int lost = 0;
        for (int[] h : d.hung) {
            all += h[0];
            if (since != -9 && h[1] >= since) lost += h[0];
        }
        return new int[] {d.matter, d.day, since, all, lost}[what];
    }

    int hang(int deed, int amount) {
        int all = 0;
        for (Deed d : deeds) all += d.hung.size();
        int r = first(-1, out(deed, 0, deeds.size() - 1), -4, amount < 1, -6, amount > 9999 || all == 100);
        if (r != 0) return r;
        deeds.get(deed).hung.add(new int[] {amount, day});
        return deeds.get(deed).hung.size();
    }

    // ---- shifts ----

    int need(int shift, int n) {
        int r = first(-2, out(shift, 0, 2), -4, n < 0, -6, n > 2);
        if (r != 0) return r;
        int was = need[shift];
        need[shift] = n;
        return was;
    }

    int wish(int person, int d, int shift, boolean on) {
        int r = first(-1, noPerson(person), -2, out(shift, 0, 2), -3, out(d, 0, 3));
        if (r != 0) return r;
        boolean[] wishes = people.get(person).wish[d];
        boolean was = wishes[shift];
        wishes[shift] = on;
        return was == on ? 0 : 1;
    }

    private List<Integer> team(int shop) {
        List<Integer> team = new ArrayList<>();
        for (int p = 0; p < people.size() && team.size() < 4; p++) {
            if (isHere(p) && people.get(p).shop == shop) team.add(p);
        }
        return team;
    }

    private int[][] bestTable;
    private int bestBroken;

    /** Tries all tables: rows are days, columns the people of the team. */
    private int search(int shop, int rules) {
        bestTable = null;
        bestBroken = -9;
        List<Integer> team = team(shop);
        if (team.size() < 4) return -9;
        List<int[]> days = new ArrayList<>();
        for (int a = 0; a < 4; a++) for (int b = 0; b < 4; b++) for (int c = 0; c < 4; c++) for (int d = 0; d < 4; d++) {
            int[] row = {a, b, c, d};
            int[] have = new int[4];
            for (int s : row) have[s]++;
            if (have[0] == need[0] && have[1] == need[1] && have[2] == need[2]) days.add(row);
        }
        for (int[] a : days) for (int[] b : days) {
            if ((rules & 1) != 0 && tired(a, b)) continue;
            for (int[] c : days) {
                if ((rules & 1) != 0 && tired(b, c)) continue;
                for (int[] d : days) {
                    if ((rules & 1) != 0 && tired(c, d)) continue;
                    judge(new int[][] {a, b, c, d}, team, rules);
                }
            }
        }
        return bestBroken;
    }

    private static boolean tired(int[] one, int[] next) {
        for (int i = 0; i < 4; i++) if (one[i] == 2 && next[i] < 2) return true;
        return false;
    }

    private void judge(int[][] table, List<Integer> team, int rules) {
        int broken = 0;
        int fewNights = 9;
        int mostNights = 0;
        for (int i = 0; i < 4; i++) {
            int shifts = 0;
            int nights = 0;
            for (int d = 0; d < 4; d++) {
                int s = table[d][i];
                shifts += s < 3 ? 1 : 0;
                nights += s == 2 ? 1 : 0;
                broken += s < 3 && people.get(team.get(i)).wish[d][s] ? 1 : 0;
            }
            if ((rules & 2) != 0 && shifts > settings[4]) return;
            fewNights = Math.min(fewNights, nights);
            mostNights = Math.max(mostNights, nights);
        }
        if ((rules & 4) != 0 && mostNights - fewNights >= 2) return;
        if (bestTable == null || broken < bestBroken) {
            bestTable = table;
            bestBroken = broken;
        }
    }

    int shifts(int shop, int rules) {
        int r = first(-1, out(shop, 0, 5), -2, out(rules, 0, 7));
        return r != 0 ? r : search(shop, rules);
    }

    int shiftOf(int shop, int rules, int person, int d) {
        int r = first(-1, out(shop, 0, 5) || noPerson(person), -2, out(rules, 0, 7), -3, out(d, 0, 3));
        if (r != 0) return r;
        search(shop, rules);
        int column = team(shop).indexOf(person);
        return bestTable == null || column < 0 ? -9 : bestTable[d][column];
    }

    int bars(int shop) {
        int r = first(-1, out(shop, 0, 5));
        if (r != 0) return r;
        if (team(shop).size() < 4) return -8;
        if (search(shop, 7) != -9) return -9;
        int best = 7;
        for (int rules = 6; rules >= 0; rules--) {
            if (Integer.bitCount(rules) <= Integer.bitCount(best) && search(shop, rules) == -9) best = rules;
        }
        return best;
    }

    // ---- pieces ----

    int study(int piece, int v) {
        int r = first(-1, out(piece, 0, 4));
        if (r != 0) return r;
        r = first(-4, v < 1, -6, v > 999 || studies.get(piece).size() == 12);
        if (r != 0) return r;
        studies.get(piece).add(new int[] {v, day});
        return studies.get(piece).size();
    }

    private int timeOn(int piece, int d) {
        List<Integer> values = new ArrayList<>();
        for (int[] s : studies.get(piece)) if (s[1] <= d) values.add(s[0]);
        if (values.size() < 3) return -9;
        values.sort(null);
        int sum = 0;
        for (int i = 1; i < values.size() - 1; i++) sum += values.get(i);
        return sum / (values.size() - 2);
    }

    int time(int piece, int d) {
        int r = first(-1, out(piece, 0, 4), -4, d < 0, -6, d > 1000);
        return r != 0 ? r : timeOn(piece, d);
    }

    int changed(int piece, int agreed, int d) {
        int r = first(-1, out(piece, 0, 4), -4, agreed < 1 || d < 0, -6, agreed > 999 || d > 1000);
        if (r != 0) return r;
        int t = timeOn(piece, d);
        return t != -9 && Math.abs(t * 10 - agreed * 10) > agreed ? 1 : 0;
    }

    // ---- points ----

    int weight(int which, int v) {
        int r = first(-2, out(which, 0, 3), -4, v < 0, -6, v > 9);
        if (r != 0) return r;
        int was = weights[which];
        weights[which] = v;
        return was;
    }

    int list() {
        listDay = day;
        for (Person p : people) {
            p.listedChildren = p.children;
            p.listedHurt = p.hurt;
        }
        return 1;
    }

    int right(int person, int what, int v) {
        int r = first(-1, noPerson(person), -2, out(what, 0, 1), -4, v < 0, -6, v > (what == 0 ? 9 : 100));
        if (r != 0) return r;
        Person p = people.get(person);
        boolean late = listDay != null && day - listDay > settings[2];
        int was = what == 0 ? p.children : p.hurt;
        if (what == 0) p.children = v;
        else p.hurt = v;
        if (!late && what == 0) p.listedChildren = v;
        if (!late && what == 1) p.listedHurt = v;
        return was;
    }

    private int pointsOf(Person p) {
        return (day - p.born) / 365 * weights[0] + (day - p.came) / 365 * weights[1]
                + (listDay == null ? p.children : p.listedChildren) * weights[2]
                + (listDay == null ? p.hurt : p.listedHurt) * weights[3];
    }

    int points(int person) {
        int r = first(-1, noPerson(person));
        return r != 0 ? r : pointsOf(people.get(person));
    }

    int goes(int shop, int n, int i) {
        int r = first(-1, out(shop, 0, 5), -4, n < 0, -6, n > 24);
        if (r != 0) return r;
        List<Integer> going = new ArrayList<>();
        for (int p = 0; p < people.size(); p++) if (isHere(p) && people.get(p).shop == shop) going.add(p);
        going.sort((a, b) -> {
            Person x = people.get(a);
            Person y = people.get(b);
            if (pointsOf(x) != pointsOf(y)) return pointsOf(x) - pointsOf(y);
            return x.came != y.came ? y.came - x.came : b - a;
        });
        return i < 0 || i >= Math.min(n, going.size()) ? -9 : going.get(i);
    }

    // ---- the plan ----

    int planned(int length, int due, int waits) {
        int r = first(-4, length < 1 || due < 0 || waits < 0, -3, waits >= 1 << plan.size(),
                -6, length > 3 || due > 6 || plan.size() == 7);
        if (r != 0) return r;
        plan.add(new int[] {length, due, waits});
        return plan.size() - 1;
    }

    private int[] bestPlaces;
    private int bestLate;

    private void tryPlaces(int[] at, int number, int[] full, int late) {
        if (number == plan.size()) {
            if (bestPlaces == null || late < bestLate) {
                bestPlaces = at.clone();
                bestLate = late;
            }
            return;
        }
        int[] m = plan.get(number);
        for (int p = 0; p < 7; p++) {
            boolean free = full[p] + m[0] <= settings[3];
            for (int w = 0; w < number; w++) free &= (m[2] & 1 << w) == 0 || at[w] < p;
            if (!free) continue;
            at[number] = p;
            full[p] += m[0];
            tryPlaces(at, number + 1, full, late + Math.max(0, p - m[1]));
            full[p] -= m[0];
        }
    }

    int plan() {
        bestPlaces = null;
        bestLate = -9;
        tryPlaces(new int[7], 0, new int[7], 0);
        return bestLate;
    }

    int placeOf(int planned) {
        int r = first(-1, out(planned, 0, plan.size() - 1));
        if (r != 0) return r;
        plan();
        return bestPlaces == null ? -9 : bestPlaces[planned];
    }

    // ---- the row ----

    int put(int v) {
        int r = first(-6, row.size() == 40);
        if (r != 0) return r;
        row.add(v);
        return row.size();
    }

    int check(int j, int k) {
        int r = first(-4, j < 0 || k < 0, -3, j > k || k > day);
        if (r != 0) return r;
        List<Integer> told = row;
        row = new ArrayList<>();
        for (int i = 0; i < told.size(); i++) {
            if (i >= matters.size() || matters.get(i).opened > j
                    || stateOf(matters.get(i), j, k) != told.get(i)) return i;
        }
        return -9;
    }

    int count(int what) {
        switch (what) {
            case 0: return day;
            case 1: return hereIn(63);
            case 2: return acts.size();
            case 3: return matters.size();
            case 4: return seats.size();
            case 5: return sessions.size();
            case 6: return (int) agreements.stream().filter(this::stands).count();
            case 7: return deeds.size();
            case 8: return (int) deeds.stream().filter(d -> voidSince(d) != -9).count();
            case 9: return text.length();
            case 10: return row.size();
            default: return what >= 11 && what <= 16 ? refused[what - 10] : -9;
        }
    }
}
