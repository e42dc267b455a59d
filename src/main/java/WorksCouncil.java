/**
 * A works council: what the firm does to those who work must be told, asked or agreed.
 * What each call answers is told, promise by promise, in ../shared/DOC.md; words in capitals are its terms.
 */
public final class WorksCouncil {
    private static final int FINE = 0;
    private static final int NOBODY = -1;
    private static final int OTHER = -2;
    private static final int STATE = -3;
    private static final int BELOW = -4;
    private static final int ROOM = -6;
    private static final int NONE = -9;
    private static final int NO_TEAM = -8;
    private static final int FAULT = -20;
    private static final int FAR = 1000000000;
    private static final int NEVER = 1000000;

    private static final int LAST_DAY = 1000;
    private static final int SHOPS = 6;
    private static final int ALL_SHOPS = 63;
    private static final int WHATS = 8;
    private static final int KINDS = 5;
    private static final int GREATEST = 9999;
    private static final int PEOPLE = 24;
    private static final int ACTS = 24;
    private static final int TEXT = 60;
    private static final int MATTERS = 40;
    private static final int TELLINGS = 30;
    private static final int PAPERS = 8;
    private static final int SEATS = 9;
    private static final int SESSIONS = 30;
    private static final int AGREEMENTS = 30;
    private static final int DEEDS = 60;
    private static final int AMOUNTS = 100;
    private static final int PIECES = 5;
    private static final int STUDIES = 12;
    private static final int PLANNED = 7;
    private static final int ROW = 40;

    private static final int TOLD = 1;
    private static final int ASKED = 2;
    private static final int JOINT = 3;
    private static final int URGENT = 4;

    private static final int NEEDS = 0;
    private static final int SPAN = 1;
    private static final int SILENCE = 2;
    private static final int[] MOST_OF_TERM = {255, 30, 1};

    private static final int NOTICE = 0;
    private static final int TERM = 1;
    private static final int LIMIT = 2;
    private static final int ROOMY = 3;
    private static final int MOST = 4;
    private static final int[] LEAST_SETTING = {0, 0, 0, 3, 0};
    private static final int[] MOST_SETTING = {20, 200, 1000, 9, 4};

    private static final int REST_RULE = 1;
    private static final int MOST_RULE = 2;
    private static final int FAIR_RULE = 4;
    private static final int ALL_RULES = 7;
    private static final int[] RULES_BY_SIZE = {0, 1, 2, 4, 3, 5, 6, 7};

    private final Days calendar = new Days();
    private final Staff staff = new Staff();
    private final Acts acts = new Acts();
    private final Council council = new Council();
    private final Matter[] matters = new Matter[MATTERS];
    private int opened = 0;
    private final Agreements agreements = new Agreements();
    private final Deeds deeds = new Deeds();
    private final Roster roster = new Roster();
    private final Studies studies = new Studies();
    private final Plan places = new Plan();
    private final int[][] terms = new int[KINDS][3];
    private final int[] settings = {3, 30, 14, 3, 3};
    private final int[] row = new int[ROW];
    private int rowLength = 0;
    private final int[] refusals = new int[7];

    public WorksCouncil() {
        for (int i = 0; i < MATTERS; i++) {
            matters[i] = new Matter(calendar, council);
        }
        for (int kind = 0; kind < KINDS; kind++) {
            terms[kind][SPAN] = 5;
            terms[kind][SILENCE] = kind == TOLD || kind == ASKED ? 1 : 0;
        }
    }

    // ---- days and people ----

    public int days(int n) {
        if (n < 1) {
            return refuse(BELOW);
        }
        if (n > LAST_DAY - calendar.now) {
            return refuse(ROOM);
        }
        calendar.now += n;
        return calendar.now;
    }

    public int feast(int day) {
        int wrong = outside(day, 0, LAST_DAY);
        if (wrong != FINE) {
            return refuse(wrong);
        }
        return calendar.tellFeast(day) ? 1 : 0;
    }

    public int workdays(int from, int to) {
        int wrong = worse(outside(from, 0, LAST_DAY), outside(to, 0, LAST_DAY));
        if (wrong != FINE) {
            return refuse(wrong);
        }
        return calendar.workdaysBehind(from, to);
    }

    public int person(int shop, int born, int came, int children, int hurt) {
        if (!isShop(shop)) {
            return refuse(NOBODY);
        }
        int wrong = worse(outside(born, -25000, -5000), outside(came, -15000, calendar.now));
        wrong = worse(wrong, worse(outside(children, 0, 9), outside(hurt, 0, 100)));
        wrong = worse(wrong, fullAt(staff.size, PEOPLE));
        if (wrong != FINE) {
            return refuse(wrong);
        }
        roster.forget();
        return staff.add(shop, born, came, children, hurt);
    }

    public int leave(int person) {
        if (!staff.has(person)) {
            return refuse(NOBODY);
        }
        if (!staff.here[person]) {
            return refuse(STATE);
        }
        staff.here[person] = false;
        roster.forget();
        return 1;
    }

    // ---- acts and kinds ----

    public int feed(int n, long bytes) {
        if (n < 1) {
            return refuse(BELOW);
        }
        if (n > 8 || acts.fed() + n > TEXT) {
            return refuse(ROOM);
        }
        return acts.feedText(n, bytes);
    }

    public int act(int from) {
        int wrong = worse(outside(from, calendar.now, LAST_DAY), fullAt(acts.size, ACTS));
        if (wrong != FINE) {
            return refuse(wrong);
        }
        int fault = acts.faultOfText();
        if (fault != NONE) {
            acts.dropText();
            return FAULT - fault;
        }
        return acts.takeText(from);
    }

    public int strike(int act, int from) {
        if (act < 0 || act >= acts.size) {
            return refuse(NOBODY);
        }
        if (acts.struck[act] != NEVER) {
            return refuse(STATE);
        }
        int wrong = outside(from, calendar.now, LAST_DAY);
        if (wrong != FINE) {
            return refuse(wrong);
        }
        acts.struck[act] = from;
        return 1;
    }

    public int kind(int theWhat, int shops, int sum, boolean urgent, int what) {
        if (!isWhat(theWhat) || what < 0 || what > 3) {
            return refuse(OTHER);
        }
        int wrong = wrongTopic(shops, sum);
        if (wrong != FINE) {
            return refuse(wrong);
        }
        tellFacts(shops, sum, urgent);
        int bearing = acts.bearingOn(theWhat, calendar.now);
        if (what >= 2) {
            return acts.quarrelAmong(bearing, what == 2);
        }
        int giver = acts.giverAmong(bearing);
        return what == 1 ? giver : acts.kindOf(giver);
    }

    public int term(int kind, int what, int v) {
        if (kind < 0 || kind >= KINDS || what < 0 || what > SILENCE) {
            return refuse(OTHER);
        }
        int wrong = outside(v, 0, MOST_OF_TERM[what]);
        if (wrong != FINE) {
            return refuse(wrong);
        }
        int was = terms[kind][what];
        terms[kind][what] = v;
        return was;
    }

    // ---- matters ----

    public int open(int theWhat, int shops, int sum, boolean urgent) {
        if (!isWhat(theWhat)) {
            return refuse(OTHER);
        }
        int wrong = worse(wrongTopic(shops, sum), fullAt(opened, MATTERS));
        if (wrong != FINE) {
            return refuse(wrong);
        }
        tellFacts(shops, sum, urgent);
        int giver = acts.giverAmong(acts.bearingOn(theWhat, calendar.now));
        int itsKind = acts.kindOf(giver);
        matters[opened].begin(theWhat, shops, sum, giver);
        matters[opened].takeTerms(itsKind, terms[itsKind][NEEDS], terms[itsKind][SPAN], terms[itsKind][SILENCE] == 1);
        opened++;
        return opened - 1;
    }

    public int paper(int matter, int p, boolean whole) {
        if (!isMatter(matter) || p < 0 || p >= PAPERS) {
            return refuse(NOBODY);
        }
        Matter it = matters[matter];
        if (it.withdrawnBy(calendar.now)) {
            return refuse(STATE);
        }
        if (!whole && it.paperDay(p, calendar.now, calendar.now) == NONE) {
            return refuse(STATE);
        }
        if (it.isFull()) {
            return refuse(ROOM);
        }
        return it.tell(whole ? Matter.PAPER : Matter.NOT_WHOLE, p);
    }

    public int withdraw(int matter) {
        if (!isMatter(matter)) {
            return refuse(NOBODY);
        }
        Matter it = matters[matter];
        if (it.withdrawnBy(calendar.now)) {
            return refuse(STATE);
        }
        if (it.isFull()) {
            return refuse(ROOM);
        }
        it.tell(Matter.WITHDRAWN, 0);
        return 1;
    }

    public int state(int matter, int j, int k) {
        if (!isMatter(matter)) {
            return refuse(NOBODY);
        }
        if (j < 0 || k < 0) {
            return refuse(BELOW);
        }
        if (j < matters[matter].opened || j > k || k > calendar.now) {
            return refuse(STATE);
        }
        return matters[matter].stateOn(j, k);
    }

    public int matterOf(int matter, int what) {
        if (!isMatter(matter)) {
            return refuse(NOBODY);
        }
        Matter it = matters[matter];
        switch (what) {
            case 0:
                return it.kind;
            case 1:
                return it.opened;
            case 2:
                return it.wholeSince(calendar.now, calendar.now);
            case 3:
                return it.letsOn(calendar.now) ? 1 : 0;
            case 4:
                return it.tellings;
            case 5:
                return it.giver;
            default:
                return refuse(OTHER);
        }
    }

    // ---- seats and sessions ----

    public int votes(int shop, int n) {
        if (!isShop(shop)) {
            return refuse(NOBODY);
        }
        int wrong = outside(n, 0, 999);
        if (wrong != FINE) {
            return refuse(wrong);
        }
        int was = council.votes[shop];
        council.votes[shop] = n;
        return was;
    }

    public int elect(int seats) {
        int wrong = outside(seats, 1, SEATS);
        if (wrong != FINE) {
            return refuse(wrong);
        }
        return council.fillSeats(seats);
    }

    public int seat(int seat, int what) {
        if (!council.hasSeat(seat)) {
            return refuse(NOBODY);
        }
        if (what < 0 || what > 1) {
            return refuse(OTHER);
        }
        return what == 0 ? council.seatShop[seat] : council.member[seat];
    }

    public int sit(int seat, int person) {
        if (!council.hasSeat(seat) || !staff.has(person)) {
            return refuse(NOBODY);
        }
        if (!staff.here[person] || staff.shop[person] != council.seatShop[seat]
                || council.sitsElsewhere(person, seat)) {
            return refuse(STATE);
        }
        council.member[seat] = person;
        return 1;
    }

    public int session(int called, int present) {
        if (called < 0 || present < 0) {
            return refuse(BELOW);
        }
        if (called > calendar.now || !canBePresent(present)) {
            return refuse(STATE);
        }
        if (council.sessions >= SESSIONS) {
            return refuse(ROOM);
        }
        return council.meet(calendar.now, present, calendar.now - called >= settings[NOTICE]);
    }

    public int vote(int matter, int yes, int no) {
        if (!isMatter(matter)) {
            return refuse(NOBODY);
        }
        Matter it = matters[matter];
        int latest = council.sessions - 1;
        if (!council.hasSession(latest) || council.day[latest] != calendar.now || it.kind < ASKED) {
            return refuse(STATE);
        }
        int now = it.stateOn(calendar.now, calendar.now);
        int present = council.present[latest];
        if (now != 2 && now != 3 || ((yes | no) & ~present) != 0 || (yes & no) != 0) {
            return refuse(STATE);
        }
        if (it.isFull()) {
            return refuse(ROOM);
        }
        int answer = 2 * Integer.bitCount(yes) > Integer.bitCount(present) ? 1 : 0;
        it.tell(Matter.ANSWER, 2 * latest + answer);
        council.answers[latest]++;
        return answer;
    }

    public int sessionOf(int session, int what) {
        if (!council.hasSession(session)) {
            return refuse(NOBODY);
        }
        switch (what) {
            case 0:
                return council.day[session];
            case 1:
                return council.present[session];
            case 2:
                return council.right[session] ? 1 : 0;
            case 3:
                return council.voided[session] != NEVER ? 1 : 0;
            default:
                return refuse(OTHER);
        }
    }

    public int voids(int session) {
        if (!council.hasSession(session)) {
            return refuse(NOBODY);
        }
        if (council.right[session] || council.voided[session] != NEVER) {
            return refuse(STATE);
        }
        council.voided[session] = calendar.now;
        return council.answers[session];
    }

    public int set(int what, int v) {
        if (what < 0 || what > MOST) {
            return refuse(OTHER);
        }
        int wrong = outside(v, LEAST_SETTING[what], MOST_SETTING[what]);
        if (wrong != FINE) {
            return refuse(wrong);
        }
        int was = settings[what];
        settings[what] = v;
        return was;
    }

    // ---- agreements and contracts ----

    public int agree(int matter, int value, int from, int to) {
        if (!isMatter(matter)) {
            return refuse(NOBODY);
        }
        if (matters[matter].kind != JOINT || !matters[matter].letsOn(calendar.now) || agreements.isOf(matter)) {
            return refuse(STATE);
        }
        int wrong = worse(outside(value, 0, GREATEST), outside(from, calendar.now, LAST_DAY));
        if (to != -1) {
            wrong = worse(wrong, outside(to, from, LAST_DAY));
        }
        wrong = worse(wrong, fullAt(agreements.size, AGREEMENTS));
        if (wrong != FINE) {
            return refuse(wrong);
        }
        return agreements.add(matter, value, from, to == -1 ? NEVER : to, calendar.now);
    }

    public int cancel(int agreement) {
        if (!agreements.has(agreement)) {
            return refuse(NOBODY);
        }
        if (agreements.cancelled[agreement]) {
            return refuse(STATE);
        }
        return agreements.endBy(agreement, calendar.now + settings[TERM]);
    }

    public int agreementOf(int agreement, int what) {
        if (!agreements.has(agreement)) {
            return refuse(NOBODY);
        }
        switch (what) {
            case 0:
                return agreements.matter[agreement];
            case 1:
                return agreements.value[agreement];
            case 2:
                return agreements.from[agreement];
            case 3:
                return agreements.end[agreement];
            case 4:
                return holds(agreement) ? 1 : 0;
            default:
                return refuse(OTHER);
        }
    }

    public int contract(int theWhat, int value, int let) {
        if (!isWhat(theWhat) || let < 0 || let > 2) {
            return refuseFar(OTHER);
        }
        int wrong = outside(value, -1, GREATEST);
        if (wrong != FINE) {
            return refuseFar(wrong);
        }
        int was = agreements.contract[theWhat];
        agreements.contract[theWhat] = value;
        agreements.let[theWhat] = let;
        return was;
    }

    public int after(int theWhat, boolean on) {
        if (!isWhat(theWhat)) {
            return refuse(OTHER);
        }
        boolean news = agreements.after[theWhat] != on;
        agreements.after[theWhat] = on;
        return news ? 1 : 0;
    }

    public int worth(int shop, int theWhat, int day, int what) {
        if (!isShop(shop)) {
            return refuse(NOBODY);
        }
        if (!isWhat(theWhat) || what < 0 || what > 1) {
            return refuse(OTHER);
        }
        int wrong = outside(day, 0, LAST_DAY);
        if (wrong != FINE) {
            return refuse(wrong);
        }
        int agreement = agreementInForce(shop, theWhat, day);
        if (agreement == NONE && agreements.after[theWhat]) {
            agreement = agreementEndedLast(shop, theWhat, day);
        }
        return what == 1 ? agreement : agreements.worthBy(theWhat, agreement);
    }

    // ---- the board, the court and deeds ----

    public int board(int matter, int firm, int council, boolean chair) {
        if (!isMatter(matter)) {
            return refuse(NOBODY);
        }
        Matter it = matters[matter];
        int now = it.stateOn(calendar.now, calendar.now);
        if (it.kind < JOINT || now != 5 && now != 7) {
            return refuse(STATE);
        }
        int wrong = worse(outside(firm, 0, 2), outside(council, 0, 2));
        wrong = worse(wrong, fullAt(it.tellings, TELLINGS));
        if (wrong != FINE) {
            return refuse(wrong);
        }
        int ruling = firm + council + (chair ? 1 : 0) >= 3 ? 1 : 0;
        it.tell(Matter.RULED, ruling);
        return ruling;
    }

    public int court(int matter) {
        if (!isMatter(matter)) {
            return refuse(NOBODY);
        }
        Matter it = matters[matter];
        if (it.lastRuling(calendar.now, calendar.now) == NONE) {
            return refuse(STATE);
        }
        if (it.isFull()) {
            return refuse(ROOM);
        }
        it.tell(Matter.FALLEN, 0);
        return 1;
    }

    public int deed(int matter, int theWhat, int shops, int sum) {
        if (matter != -1 && !isMatter(matter)) {
            return refuse(NOBODY);
        }
        if (!isWhat(theWhat)) {
            return refuse(OTHER);
        }
        if (isMatter(matter) && matters[matter].theWhat != theWhat) {
            return refuse(STATE);
        }
        int wrong = worse(wrongTopic(shops, sum), fullAt(deeds.size, DEEDS));
        if (wrong != FINE) {
            return refuse(wrong);
        }
        tellFacts(shops, sum, false);
        boolean bound = acts.kindOf(acts.giverAmong(acts.bearingOn(theWhat, calendar.now))) > 0;
        return deeds.add(matter, calendar.now, shops, sum, bound);
    }

    public int deedOf(int deed, int what) {
        if (!deeds.has(deed)) {
            return refuseFar(NOBODY);
        }
        switch (what) {
            case 0:
                return deeds.matter[deed];
            case 1:
                return deeds.day[deed];
            case 2:
                return voidSince(deed);
            case 3:
                return deeds.hungSince(deed, 0);
            case 4:
                int since = voidSince(deed);
                return since == NONE ? 0 : deeds.hungSince(deed, since);
            default:
                return refuseFar(OTHER);
        }
    }

    public int hang(int deed, int amount) {
        if (!deeds.has(deed)) {
            return refuse(NOBODY);
        }
        int wrong = worse(outside(amount, 1, GREATEST), fullAt(deeds.amounts, AMOUNTS));
        if (wrong != FINE) {
            return refuse(wrong);
        }
        return deeds.hangOn(deed, amount, calendar.now);
    }

    // ---- shifts ----

    public int need(int shift, int n) {
        if (shift < 0 || shift > 2) {
            return refuse(OTHER);
        }
        int wrong = outside(n, 0, 2);
        if (wrong != FINE) {
            return refuse(wrong);
        }
        int was = roster.need[shift];
        roster.need[shift] = n;
        roster.forget();
        return was;
    }

    public int wish(int person, int day, int shift, boolean on) {
        if (!staff.has(person)) {
            return refuse(NOBODY);
        }
        if (shift < 0 || shift > 2) {
            return refuse(OTHER);
        }
        if (day < 0 || day >= Roster.DAYS) {
            return refuse(STATE);
        }
        if (staff.wishesAgainst(person, day, shift) == on) {
            return 0;
        }
        staff.turnWish(person, day, shift);
        roster.forget();
        return 1;
    }

    public int shifts(int shop, int rules) {
        if (!isShop(shop)) {
            return refuse(NOBODY);
        }
        if (rules < 0 || rules > ALL_RULES) {
            return refuse(OTHER);
        }
        return bestShifts(shop, rules);
    }

    public int shiftOf(int shop, int rules, int person, int day) {
        if (!isShop(shop) || !staff.has(person)) {
            return refuse(NOBODY);
        }
        if (rules < 0 || rules > ALL_RULES) {
            return refuse(OTHER);
        }
        if (day < 0 || day >= Roster.DAYS) {
            return refuse(STATE);
        }
        return bestShifts(shop, rules) == NONE ? NONE : roster.bestShift(person, day);
    }

    public int bars(int shop) {
        if (!isShop(shop)) {
            return refuse(NOBODY);
        }
        if (staff.hereIn(1 << shop) < Roster.TEAM) {
            return NO_TEAM;
        }
        if (roster.canBe(ALL_RULES, settings[MOST])) {
            return NONE;
        }
        for (int i = 0; i < RULES_BY_SIZE.length; i++) {
            if (!roster.canBe(RULES_BY_SIZE[i], settings[MOST])) {
                return RULES_BY_SIZE[i];
            }
        }
        return ALL_RULES;
    }

    // ---- pieces ----

    public int study(int piece, int v) {
        if (piece < 0 || piece >= PIECES) {
            return refuse(NOBODY);
        }
        int wrong = worse(outside(v, 1, 999), fullAt(studies.count[piece], STUDIES));
        if (wrong != FINE) {
            return refuse(wrong);
        }
        return studies.add(piece, v, calendar.now);
    }

    public int time(int piece, int day) {
        if (piece < 0 || piece >= PIECES) {
            return refuse(NOBODY);
        }
        int wrong = outside(day, 0, LAST_DAY);
        if (wrong != FINE) {
            return refuse(wrong);
        }
        return studies.timeOn(piece, day);
    }

    public int changed(int piece, int agreed, int day) {
        if (piece < 0 || piece >= PIECES) {
            return refuse(NOBODY);
        }
        int wrong = worse(outside(agreed, 1, 999), outside(day, 0, LAST_DAY));
        if (wrong != FINE) {
            return refuse(wrong);
        }
        int now = studies.timeOn(piece, day);
        return now != NONE && 10 * Math.abs(now - agreed) > agreed ? 1 : 0;
    }

    // ---- points ----

    public int weight(int which, int v) {
        if (which < 0 || which > 3) {
            return refuse(OTHER);
        }
        int wrong = outside(v, 0, 9);
        if (wrong != FINE) {
            return refuse(wrong);
        }
        int was = staff.weights[which];
        staff.weights[which] = v;
        return was;
    }

    public int list() {
        staff.tellList(calendar.now);
        return 1;
    }

    public int right(int person, int what, int v) {
        if (!staff.has(person)) {
            return refuse(NOBODY);
        }
        if (what < 0 || what > 1) {
            return refuse(OTHER);
        }
        int wrong = outside(v, 0, what == 0 ? 9 : 100);
        if (wrong != FINE) {
            return refuse(wrong);
        }
        boolean inTime = calendar.now - staff.listDay <= settings[LIMIT];
        return what == 0 ? staff.rightChildren(person, v, inTime) : staff.rightHurt(person, v, inTime);
    }

    public int points(int person) {
        if (!staff.has(person)) {
            return refuse(NOBODY);
        }
        return staff.pointsOf(person, calendar.now);
    }

    public int goes(int shop, int n, int i) {
        if (!isShop(shop)) {
            return refuse(NOBODY);
        }
        int wrong = outside(n, 0, PEOPLE);
        if (wrong != FINE) {
            return refuse(wrong);
        }
        return i < 0 || i >= n ? NONE : staff.goingAt(shop, i, calendar.now);
    }

    // ---- the plan ----

    public int planned(int length, int due, int waits) {
        if (length < 1 || due < 0 || waits < 0) {
            return refuse(BELOW);
        }
        if (waits >> places.size != 0) {
            return refuse(STATE);
        }
        if (length > 3 || due >= Plan.PLACES || places.size >= PLANNED) {
            return refuse(ROOM);
        }
        return places.add(length, due, waits);
    }

    public int plan() {
        return places.leastLate(settings[ROOMY]);
    }

    public int placeOf(int planned) {
        if (planned < 0 || planned >= places.size) {
            return refuse(NOBODY);
        }
        return places.leastLate(settings[ROOMY]) == NONE ? NONE : places.best[planned];
    }

    // ---- months that are checked, and counts ----

    public int put(int v) {
        if (rowLength >= ROW) {
            return refuse(ROOM);
        }
        row[rowLength] = v;
        rowLength++;
        return rowLength;
    }

    public int check(int j, int k) {
        if (j < 0 || k < 0) {
            return refuse(BELOW);
        }
        if (j > k || k > calendar.now) {
            return refuse(STATE);
        }
        int length = rowLength;
        rowLength = 0;
        for (int i = 0; i < length && i < ROW; i++) {
            if (!isMatter(i) || matters[i].opened > j || matters[i].stateOn(j, k) != row[i]) {
                return i;
            }
        }
        return NONE;
    }

    public int count(int what) {
        if (what >= 11 && what <= 16) {
            return refusals[what - 10];
        }
        switch (what) {
            case 0:
                return calendar.now;
            case 1:
                return staff.hereIn(ALL_SHOPS);
            case 2:
                return acts.size;
            case 3:
                return opened;
            case 4:
                return council.seats;
            case 5:
                return council.sessions;
            case 6:
                return countHolding();
            case 7:
                return deeds.size;
            case 8:
                return countVoid();
            case 9:
                return acts.fed();
            case 10:
                return rowLength;
            default:
                return NONE;
        }
    }

    // ---- what several calls share ----

    private int refuse(int number) {
        if (number < 0 && number >= ROOM) {
            refusals[-number]++;
        }
        return number;
    }

    /** For answers that may be below 0 themselves, a refusal must not look like one of them. */
    private int refuseFar(int number) {
        return FAR - refuse(number);
    }

    private static int outside(int v, int least, int greatest) {
        return v < least ? BELOW : v > greatest ? ROOM : FINE;
    }

    private static int fullAt(int size, int limit) {
        return size >= limit ? ROOM : FINE;
    }

    /** Of two findings the one that is told: BELOW goes ahead of ROOM in every promise that has both. */
    private static int worse(int a, int b) {
        return a == BELOW || b == BELOW ? BELOW : Math.min(a, b);
    }

    private static int wrongTopic(int shops, int sum) {
        return worse(outside(shops, 1, ALL_SHOPS), outside(sum, 0, GREATEST));
    }

    private static boolean isShop(int shop) {
        return shop >= 0 && shop < SHOPS;
    }

    private static boolean isWhat(int theWhat) {
        return theWhat >= 0 && theWhat < WHATS;
    }

    private boolean isMatter(int matter) {
        return matter >= 0 && matter < opened && matter < MATTERS;
    }

    private void tellFacts(int shops, int sum, boolean urgent) {
        int[] facts = acts.reader.facts;
        facts[0] = staff.hereIn(shops);
        facts[1] = staff.hereIn(ALL_SHOPS);
        facts[2] = Integer.bitCount(shops);
        facts[3] = sum;
        facts[4] = council.seats;
        facts[5] = urgent ? 1 : 0;
    }

    private boolean canBePresent(int present) {
        if (present >> council.seats != 0) {
            return false;
        }
        for (int seat = 0; seat < council.seats; seat++) {
            int who = council.member[seat];
            if ((present >> seat & 1) == 1 && !(staff.has(who) && staff.here[who])) {
                return false;
            }
        }
        return true;
    }

    private boolean holds(int agreement) {
        int matter = agreements.matter[agreement];
        return isMatter(matter)
                && matters[matter].lets(matters[matter].stateOn(agreements.made[agreement], calendar.now));
    }

    private boolean concerns(int agreement, int shop, int theWhat) {
        int matter = agreements.matter[agreement];
        return isMatter(matter) && matters[matter].theWhat == theWhat
                && (matters[matter].shops >> shop & 1) == 1;
    }

    private int agreementInForce(int shop, int theWhat, int day) {
        int found = NONE;
        for (int a = 0; a < agreements.size; a++) {
            if (day < agreements.from[a] || day > agreements.end[a]
                    || !concerns(a, shop, theWhat) || !holds(a)) {
                continue;
            }
            if (found == NONE || agreements.from[a] >= agreements.from[found]) {
                found = a;
            }
        }
        return found;
    }

    private int agreementEndedLast(int shop, int theWhat, int day) {
        int found = NONE;
        for (int a = 0; a < agreements.size; a++) {
            boolean wasInForce = agreements.from[a] <= agreements.end[a];
            if (!wasInForce || agreements.end[a] >= day || !concerns(a, shop, theWhat) || !holds(a)) {
                continue;
            }
            if (found == NONE || agreements.end[a] >= agreements.end[found]) {
                found = a;
            }
        }
        return found;
    }

    private int voidSince(int deed) {
        int day = deeds.day[deed];
        if (!isMatter(deeds.matter[deed])) {
            return deeds.bound[deed] ? day : NONE;
        }
        Matter it = matters[deeds.matter[deed]];
        if ((deeds.shops[deed] & ~it.shops) != 0 || deeds.sum[deed] > it.sum) {
            return day;
        }
        return it.firstNotLetting(day, it.kind == URGENT ? calendar.now : day);
    }

    private int bestShifts(int shop, int rules) {
        return roster.fewestBroken(staff, shop, rules, settings[MOST]);
    }

    private int countHolding() {
        int n = 0;
        for (int a = 0; a < agreements.size; a++) {
            if (holds(a)) {
                n++;
            }
        }
        return n;
    }

    private int countVoid() {
        int n = 0;
        for (int d = 0; d < deeds.size; d++) {
            if (voidSince(d) != NONE) {
                n++;
            }
        }
        return n;
    }

    /** The days that pass, and which of them are workdays. */
    private static final class Days {
        int now = 0;
        private final boolean[] feasts = new boolean[LAST_DAY + 1];
        /** Workdays from day 0 up to each day, so that no call has to walk through the days. */
        private final int[] worked = new int[LAST_DAY + 1];

        Days() {
            int sum = 0;
            for (int day = 0; day <= LAST_DAY; day++) {
                sum += day % 7 < 5 ? 1 : 0;
                worked[day] = sum;
            }
        }

        boolean tellFeast(int day) {
            if (day < 0 || day > LAST_DAY || feasts[day]) {
                return false;
            }
            feasts[day] = true;
            if (day % 7 < 5) {
                for (int d = day; d <= LAST_DAY; d++) {
                    worked[d]--;
                }
            }
            return true;
        }

        int workdaysBehind(int from, int to) {
            if (from < 0 || to > LAST_DAY || to <= from) {
                return 0;
            }
            return worked[to] - worked[from];
        }

        /** The first day up to which more workdays than the span lie behind another one. */
        int firstDayBeyond(int since, int span) {
            if (since < 0) {
                return NEVER;
            }
            for (int day = since + 1; day <= LAST_DAY; day++) {
                if (worked[day] - worked[since] > span) {
                    return day;
                }
            }
            return NEVER;
        }
    }

    /** The people: who is here, what they wish, and the points of those who must go. */
    private static final class Staff {
        int size = 0;
        final int[] shop = new int[PEOPLE];
        final boolean[] here = new boolean[PEOPLE];
        private final int[] born = new int[PEOPLE];
        private final int[] came = new int[PEOPLE];
        private final int[] children = new int[PEOPLE];
        private final int[] hurt = new int[PEOPLE];
        /** What counts for the list: it parts from what is so when something is put right too late. */
        private final int[] listedChildren = new int[PEOPLE];
        private final int[] listedHurt = new int[PEOPLE];
        private final int[] wishes = new int[PEOPLE];
        final int[] weights = {1, 1, 1, 1};
        int listDay = NONE;

        boolean has(int person) {
            return person >= 0 && person < size && person < PEOPLE;
        }

        int add(int itsShop, int itsBorn, int itsCame, int itsChildren, int itsHurt) {
            if (size >= PEOPLE) {
                return ROOM;
            }
            shop[size] = itsShop;
            here[size] = true;
            born[size] = itsBorn;
            came[size] = itsCame;
            children[size] = itsChildren;
            hurt[size] = itsHurt;
            listedChildren[size] = itsChildren;
            listedHurt[size] = itsHurt;
            size++;
            return size - 1;
        }

        int hereIn(int shops) {
            int n = 0;
            for (int p = 0; p < size; p++) {
                if (here[p] && (shops >> shop[p] & 1) == 1) {
                    n++;
                }
            }
            return n;
        }

        boolean wishesAgainst(int person, int day, int shift) {
            return (wishes[person] >> (3 * day + shift) & 1) == 1;
        }

        void turnWish(int person, int day, int shift) {
            wishes[person] ^= 1 << (3 * day + shift);
        }

        void tellList(int now) {
            listDay = now;
            for (int p = 0; p < size; p++) {
                listedChildren[p] = children[p];
                listedHurt[p] = hurt[p];
            }
        }

        int rightChildren(int person, int v, boolean inTime) {
            int was = children[person];
            children[person] = v;
            if (inTime) {
                listedChildren[person] = v;
            }
            return was;
        }

        int rightHurt(int person, int v, boolean inTime) {
            int was = hurt[person];
            hurt[person] = v;
            if (inTime) {
                listedHurt[person] = v;
            }
            return was;
        }

        int pointsOf(int person, int now) {
            boolean listed = listDay != NONE;
            return (now - born[person]) / 365 * weights[0]
                    + (now - came[person]) / 365 * weights[1]
                    + (listed ? listedChildren[person] : children[person]) * weights[2]
                    + (listed ? listedHurt[person] : hurt[person]) * weights[3];
        }

        /** Places are counted, not sorted, so that no row has to be made. */
        int goingAt(int itsShop, int place, int now) {
            for (int p = 0; p < size; p++) {
                if (here[p] && shop[p] == itsShop && countAhead(p, now) == place) {
                    return p;
                }
            }
            return NONE;
        }

        private int countAhead(int person, int now) {
            int n = 0;
            for (int p = 0; p < size; p++) {
                if (p != person && here[p] && shop[p] == shop[person] && goesAhead(p, person, now)) {
                    n++;
                }
            }
            return n;
        }

        private boolean goesAhead(int a, int b, int now) {
            int byPoints = pointsOf(a, now) - pointsOf(b, now);
            if (byPoints != 0) {
                return byPoints < 0;
            }
            return came[a] != came[b] ? came[a] > came[b] : a > b;
        }
    }

    /**
     * Reads a text by its grammar; what its rule says of the facts is reckoned on the way. What stands open is kept in
     * rows, one place for each bracket, so that no method has to call itself.
     */
    private static final class Reader {
        private static final int DEEPEST = 5;
        private static final int DIGITS = 4;
        private static final int END = -1;
        private static final int HEAD = 3;

        /** n, w, s, m, c, u, in this order. */
        final int[] facts = new int[6];
        private byte[] text = new byte[TEXT];
        private int length = 0;
        private int at = 0;
        private int fault = NONE;
        /** How many "!" and "(" stand open, and how many of these are "(". */
        private int deep = 0;
        private int level = 0;
        private final boolean[] anyTerm = new boolean[DEEPEST + 1];
        private final boolean[] allParts = new boolean[DEEPEST + 1];
        private final int[] nots = new int[DEEPEST + 1];

        int faultOf(byte[] itsText, int itsLength) {
            begin(itsText, itsLength, 0);
            expect('A', 'H');
            expect('0', '4');
            expect(':', ':');
            ruleHolds();
            if (at < length) {
                fail();
            }
            return fault;
        }

        boolean holds(byte[] itsText, int itsLength) {
            begin(itsText, itsLength, HEAD);
            return ruleHolds();
        }

        private void begin(byte[] itsText, int itsLength, int first) {
            text = itsText;
            length = Math.min(itsLength, itsText.length);
            at = first;
            fault = NONE;
            deep = 0;
            openLevel(0);
        }

        private void openLevel(int next) {
            level = next;
            anyTerm[level] = false;
            allParts[level] = true;
            nots[level] = 0;
        }

        /** Behind a fault nothing more is read, so only the first one is kept. */
        private int sign() {
            return fault != NONE || at >= length ? END : text[at] & 255;
        }

        private void fail() {
            if (fault == NONE) {
                fault = at;
            }
        }

        private void expect(int least, int greatest) {
            int sign = sign();
            if (sign < least || sign > greatest) {
                fail();
            } else {
                at++;
            }
        }

        private boolean ruleHolds() {
            boolean more = true;
            for (int i = 0; i <= TEXT && more; i++) {
                readOpenings();
                endPart(comparisonHolds());
                readClosings();
                more = joinsNext();
            }
            if (level > 0) {
                fail();
            }
            return anyTerm[0] || allParts[0];
        }

        private void readOpenings() {
            for (int i = 0; i <= DEEPEST; i++) {
                int sign = sign();
                if (sign != '!' && sign != '(') {
                    return;
                }
                if (deep >= DEEPEST) {
                    fail();
                    return;
                }
                at++;
                deep++;
                if (sign == '!') {
                    nots[level]++;
                } else {
                    openLevel(level + 1);
                }
            }
        }

        private void endPart(boolean holds) {
            boolean turned = nots[level] % 2 == 1;
            allParts[level] = allParts[level] && holds != turned;
            deep -= nots[level];
            nots[level] = 0;
        }

        private void readClosings() {
            for (int i = 0; i < DEEPEST && level > 0 && sign() == ')'; i++) {
                boolean holds = anyTerm[level] || allParts[level];
                at++;
                deep--;
                level--;
                endPart(holds);
            }
        }

        private boolean joinsNext() {
            int sign = sign();
            if (sign != '&' && sign != '|') {
                return false;
            }
            at++;
            if (sign == '|') {
                anyTerm[level] = anyTerm[level] || allParts[level];
                allParts[level] = true;
            }
            return true;
        }

        private boolean comparisonHolds() {
            int left = sum();
            int sign = sign();
            expect('<', '>');
            int right = sum();
            return sign == '<' ? left < right : sign == '=' ? left == right : left > right;
        }

        private int sum() {
            int value = unit();
            for (int i = 0; i < TEXT; i++) {
                int sign = sign();
                if (sign != '+' && sign != '-' && sign != '*') {
                    return value;
                }
                at++;
                int other = unit();
                value = sign == '+' ? value + other : sign == '-' ? value - other : value * other;
            }
            return value;
        }

        private int unit() {
            int sign = sign();
            if (sign < '0' || sign > '9') {
                int fact = factOf(sign);
                if (fact < 0 || fact >= facts.length) {
                    fail();
                    return 0;
                }
                at++;
                return facts[fact];
            }
            int value = 0;
            for (int i = 0; i < DIGITS && sign >= '0' && sign <= '9'; i++) {
                value = 10 * value + sign - '0';
                at++;
                sign = sign();
            }
            return value;
        }

        private static int factOf(int sign) {
            switch (sign) {
                case 'n':
                    return 0;
                case 'w':
                    return 1;
                case 's':
                    return 2;
                case 'm':
                    return 3;
                case 'c':
                    return 4;
                case 'u':
                    return 5;
                default:
                    return NONE;
            }
        }
    }

    /** The acts, and the text that may become the next one. */
    private static final class Acts {
        int size = 0;
        /** The text that comes in lies in the row behind the last act, where it stays if it becomes one. */
        private final byte[][] texts = new byte[ACTS + 1][TEXT];
        private final int[] lengths = new int[ACTS + 1];
        private final int[] from = new int[ACTS];
        final int[] struck = new int[ACTS];
        final Reader reader = new Reader();

        int fed() {
            return lengths[size];
        }

        int feedText(int n, long bytes) {
            for (int i = 0; i < n && i < 8 && lengths[size] < TEXT; i++) {
                texts[size][lengths[size]] = (byte) (bytes >> 8 * i);
                lengths[size]++;
            }
            return lengths[size];
        }

        int faultOfText() {
            return reader.faultOf(texts[size], lengths[size]);
        }

        void dropText() {
            lengths[size] = 0;
        }

        int takeText(int itsFrom) {
            if (size >= ACTS) {
                return ROOM;
            }
            from[size] = itsFrom;
            struck[size] = NEVER;
            size++;
            lengths[size] = 0;
            return size - 1;
        }

        /** Without an act that gives one the kind is 0: nothing has to be told. */
        int kindOf(int act) {
            return act < 0 || act >= size ? 0 : texts[act][1] - '0';
        }

        /** The set of the acts of a WHAT that are in force and whose rule holds of the facts. */
        int bearingOn(int theWhat, int now) {
            int set = 0;
            for (int a = 0; a < size; a++) {
                if (texts[a][0] - 'A' == theWhat && from[a] <= now && now < struck[a]
                        && reader.holds(texts[a], lengths[a])) {
                    set |= 1 << a;
                }
            }
            return set;
        }

        int giverAmong(int set) {
            int found = NONE;
            for (int a = 0; a < size; a++) {
                if ((set >> a & 1) == 1 && (found == NONE || from[a] >= from[found])) {
                    found = a;
                }
            }
            return found;
        }

        /** If any two quarrel, the first act of the set does, with the first of another kind. */
        int quarrelAmong(int set, boolean least) {
            int first = NONE;
            for (int a = 0; a < size; a++) {
                if ((set >> a & 1) == 0) {
                    continue;
                }
                if (first == NONE) {
                    first = a;
                } else if (kindOf(a) != kindOf(first)) {
                    return least ? first : a;
                }
            }
            return NONE;
        }
    }

    /** The seats, who sits in them, and the sessions. */
    private static final class Council {
        final int[] votes = new int[SHOPS];
        int seats = 0;
        final int[] seatShop = new int[SEATS];
        final int[] member = new int[SEATS];
        private final int[] won = new int[SHOPS];

        int sessions = 0;
        final int[] day = new int[SESSIONS];
        final int[] present = new int[SESSIONS];
        final boolean[] right = new boolean[SESSIONS];
        final int[] voided = new int[SESSIONS];
        final int[] answers = new int[SESSIONS];

        int fillSeats(int wanted) {
            seats = 0;
            for (int shop = 0; shop < SHOPS; shop++) {
                won[shop] = 0;
            }
            for (int i = 0; i < wanted && i < SEATS; i++) {
                int shop = nextWinner();
                if (shop < 0) {
                    return seats;
                }
                won[shop]++;
                seatShop[i] = shop;
                member[i] = NONE;
                seats = i + 1;
            }
            return seats;
        }

        /** Quotients are compared crosswise, so that none is cut. */
        private int nextWinner() {
            int best = NONE;
            for (int shop = 0; shop < SHOPS; shop++) {
                if (votes[shop] > 0
                        && (best < 0 || votes[shop] * (won[best] + 1) > votes[best] * (won[shop] + 1))) {
                    best = shop;
                }
            }
            return best;
        }

        boolean hasSeat(int seat) {
            return seat >= 0 && seat < seats && seat < SEATS;
        }

        boolean hasSession(int session) {
            return session >= 0 && session < sessions && session < SESSIONS;
        }

        boolean sitsElsewhere(int person, int seat) {
            for (int s = 0; s < seats; s++) {
                if (s != seat && member[s] == person) {
                    return true;
                }
            }
            return false;
        }

        int meet(int now, int itsPresent, boolean calledInTime) {
            if (sessions >= SESSIONS) {
                return ROOM;
            }
            day[sessions] = now;
            present[sessions] = itsPresent;
            right[sessions] = calledInTime && 2 * Integer.bitCount(itsPresent) > seats;
            voided[sessions] = NEVER;
            answers[sessions] = 0;
            sessions++;
            return sessions - 1;
        }

        boolean isVoidBy(int session, int known) {
            return session >= 0 && session < sessions && voided[session] <= known;
        }
    }

    /** A matter with its tellings, from which its state on any day, as known on any other, is reckoned anew. */
    private static final class Matter {
        static final int PAPER = 0;
        static final int NOT_WHOLE = 1;
        static final int WITHDRAWN = 2;
        static final int ANSWER = 3;
        static final int RULED = 4;
        static final int FALLEN = 5;

        private final Days calendar;
        private final Council council;
        int theWhat = 0;
        int shops = 0;
        int sum = 0;
        int giver = NONE;
        int opened = 0;
        int kind = 0;
        private int needs = 0;
        private int span = 0;
        private boolean passes = false;

        int tellings = 0;
        private final int[] told = new int[TELLINGS];
        /** The paper; whether ruled yes; of an answer twice its session, and one more for yes. */
        private final int[] about = new int[TELLINGS];
        private final int[] day = new int[TELLINGS];

        Matter(Days calendar, Council council) {
            this.calendar = calendar;
            this.council = council;
        }

        void begin(int itsWhat, int itsShops, int itsSum, int itsGiver) {
            theWhat = itsWhat;
            shops = itsShops;
            sum = itsSum;
            giver = itsGiver;
            opened = calendar.now;
        }

        void takeTerms(int itsKind, int itsNeeds, int itsSpan, boolean itPasses) {
            kind = itsKind;
            needs = itsNeeds;
            span = itsSpan;
            passes = itPasses;
        }

        boolean isFull() {
            return tellings >= TELLINGS;
        }

        int tell(int what, int of) {
            if (tellings < TELLINGS) {
                told[tellings] = what;
                about[tellings] = of;
                day[tellings] = calendar.now;
                tellings++;
            }
            return tellings;
        }

        boolean withdrawnBy(int j) {
            for (int t = 0; t < tellings; t++) {
                if (told[t] == WITHDRAWN && day[t] <= j) {
                    return true;
                }
            }
            return false;
        }

        /** The least day on which a paper that counts was given; read backward, as what is told behind it undoes it. */
        int paperDay(int p, int j, int k) {
            int found = NONE;
            for (int t = tellings - 1; t >= 0; t--) {
                if (told[t] == NOT_WHOLE && about[t] == p && day[t] <= k) {
                    return found;
                }
                if (told[t] == PAPER && about[t] == p && day[t] <= j) {
                    found = day[t];
                }
            }
            return found;
        }

        int wholeSince(int j, int k) {
            int since = opened;
            for (int p = 0; p < PAPERS; p++) {
                if ((needs >> p & 1) == 0) {
                    continue;
                }
                int given = paperDay(p, j, k);
                if (given == NONE) {
                    return NONE;
                }
                since = Math.max(since, given);
            }
            return since;
        }

        /** 1 yes, 0 no, or none that counts. */
        int lastRuling(int j, int k) {
            for (int t = tellings - 1; t >= 0; t--) {
                if (told[t] == FALLEN && day[t] <= k) {
                    return NONE;
                }
                if (told[t] == RULED && day[t] <= j) {
                    return about[t];
                }
            }
            return NONE;
        }

        private int lastAnswer(int j, int k) {
            for (int t = tellings - 1; t >= 0; t--) {
                if (told[t] == ANSWER && day[t] <= j && !council.isVoidBy(about[t] / 2, k)) {
                    return about[t] % 2;
                }
            }
            return NONE;
        }

        int stateOn(int j, int k) {
            if (withdrawnBy(j)) {
                return 1;
            }
            if (kind == 0) {
                return 0;
            }
            int ruling = lastRuling(j, k);
            if (ruling != NONE) {
                return ruling == 1 ? 8 : 9;
            }
            int answer = lastAnswer(j, k);
            if (answer != NONE) {
                return answer == 1 ? 4 : 5;
            }
            int since = wholeSince(j, k);
            if (since == NONE) {
                return 2;
            }
            if (kind == TOLD) {
                return 6;
            }
            if (calendar.workdaysBehind(since, j) <= span) {
                return 3;
            }
            return passes ? 6 : 7;
        }

        boolean lets(int state) {
            switch (kind) {
                case 0:
                    return state == 0;
                case TOLD:
                    return state == 6;
                case ASKED:
                    return state == 4 || state == 5 || state == 6;
                case JOINT:
                    return state == 4 || state == 6 || state == 8;
                default:
                    return state == 2 || state == 3 || state == 4 || state == 6 || state == 8;
            }
        }

        boolean letsOn(int j) {
            return lets(stateOn(j, calendar.now));
        }

        /** Goes only to days on which the state may turn: each telling's, and the end of silence between two of them. */
        int firstNotLetting(int from, int to) {
            int j = from;
            for (int turn = 0; turn <= 2 * TELLINGS + 2; turn++) {
                if (j > to) {
                    return NONE;
                }
                if (!lets(stateOn(j, calendar.now))) {
                    return j;
                }
                j = nextTurn(j);
            }
            return NONE;
        }

        private int nextTurn(int j) {
            int next = NEVER;
            for (int t = 0; t < tellings; t++) {
                if (day[t] > j) {
                    next = Math.min(next, day[t]);
                }
            }
            int silent = calendar.firstDayBeyond(wholeSince(j, calendar.now), span);
            return silent > j ? Math.min(next, silent) : next;
        }
    }

    /** Agreements, and the contracts that they stand beside. */
    private static final class Agreements {
        int size = 0;
        final int[] matter = new int[AGREEMENTS];
        final int[] value = new int[AGREEMENTS];
        final int[] from = new int[AGREEMENTS];
        final int[] end = new int[AGREEMENTS];
        final int[] made = new int[AGREEMENTS];
        final boolean[] cancelled = new boolean[AGREEMENTS];
        final int[] contract = {-1, -1, -1, -1, -1, -1, -1, -1};
        final int[] let = new int[WHATS];
        final boolean[] after = new boolean[WHATS];

        boolean has(int agreement) {
            return agreement >= 0 && agreement < size && agreement < AGREEMENTS;
        }

        boolean isOf(int itsMatter) {
            for (int a = 0; a < size; a++) {
                if (matter[a] == itsMatter) {
                    return true;
                }
            }
            return false;
        }

        int add(int itsMatter, int itsValue, int itsFrom, int itsEnd, int now) {
            if (size >= AGREEMENTS) {
                return ROOM;
            }
            matter[size] = itsMatter;
            value[size] = itsValue;
            from[size] = itsFrom;
            end[size] = itsEnd;
            made[size] = now;
            cancelled[size] = false;
            size++;
            return size - 1;
        }

        int endBy(int agreement, int day) {
            cancelled[agreement] = true;
            end[agreement] = Math.min(end[agreement], day);
            return end[agreement];
        }

        int worthBy(int theWhat, int agreement) {
            int own = contract[theWhat];
            if (!has(agreement)) {
                return own == -1 ? NONE : own;
            }
            if (own == -1 || let[theWhat] == 2) {
                return value[agreement];
            }
            return let[theWhat] == 0 ? own : Math.max(own, value[agreement]);
        }
    }

    /** Deeds, and what hangs on them. */
    private static final class Deeds {
        int size = 0;
        final int[] matter = new int[DEEDS];
        final int[] day = new int[DEEDS];
        final int[] shops = new int[DEEDS];
        final int[] sum = new int[DEEDS];
        /** Whether the kind was above 0 as it was done: acts that come or end later change nothing of that. */
        final boolean[] bound = new boolean[DEEDS];

        int amounts = 0;
        private final int[] hungOn = new int[AMOUNTS];
        private final int[] amount = new int[AMOUNTS];
        private final int[] hungDay = new int[AMOUNTS];

        boolean has(int deed) {
            return deed >= 0 && deed < size && deed < DEEDS;
        }

        int add(int itsMatter, int now, int itsShops, int itsSum, boolean isBound) {
            if (size >= DEEDS) {
                return ROOM;
            }
            matter[size] = itsMatter;
            day[size] = now;
            shops[size] = itsShops;
            sum[size] = itsSum;
            bound[size] = isBound;
            size++;
            return size - 1;
        }

        int hangOn(int deed, int itsAmount, int now) {
            if (amounts >= AMOUNTS) {
                return ROOM;
            }
            hungOn[amounts] = deed;
            amount[amounts] = itsAmount;
            hungDay[amounts] = now;
            amounts++;
            int n = 0;
            for (int i = 0; i < amounts; i++) {
                n += hungOn[i] == deed ? 1 : 0;
            }
            return n;
        }

        int hungSince(int deed, int since) {
            int total = 0;
            for (int i = 0; i < amounts; i++) {
                if (hungOn[i] == deed && hungDay[i] >= since) {
                    total += amount[i];
                }
            }
            return total;
        }
    }

    /**
     * The search for shifts. The shifts of the team on one day are an arrangement, told by a code of two bits a person.
     * Sums go along in fields of three bits a person: nights in the lower twelve bits, all shifts in the twelve above.
     */
    private static final class Roster {
        static final int TEAM = 4;
        static final int DAYS = 4;
        private static final int NIGHT = 2;
        private static final int OFF = 3;
        private static final int CODES = 256;
        private static final int ARRANGEMENTS = 24;
        private static final int SEEN = 1024;
        private static final long UNUSED = -1;

        final int[] need = {1, 1, 1};
        private final int[] team = new int[TEAM];
        private int rules = 0;
        private int most = 0;
        private int arrangements = 0;
        private final int[] codes = new int[ARRANGEMENTS];
        private final int[] nights = new int[ARRANGEMENTS];
        private final int[] byDay = new int[ARRANGEMENTS];
        private final int[][] broken = new int[DAYS][ARRANGEMENTS];
        private final int[] leastAhead = new int[DAYS + 1];
        private final int[] chosen = new int[DAYS];
        private final int[] best = new int[DAYS];
        private int fewest = NONE;
        /** Ways that lead to the same sums go on alike: only the first of the best of them is followed. */
        private final long[] seen = new long[SEEN];
        private final int[] seenBroken = new int[SEEN];
        private boolean found = false;
        private int foundShop = NONE;

        void forget() {
            found = false;
        }

        int fewestBroken(Staff staff, int shop, int itsRules, int itsMost) {
            if (found && foundShop == shop && rules == itsRules && most == itsMost) {
                return fewest;
            }
            fewest = NONE;
            rules = itsRules;
            most = itsMost;
            if (findTeam(staff, shop)) {
                listArrangements();
                countBroken(staff);
                search();
            }
            found = true;
            foundShop = shop;
            return fewest;
        }

        /** Whether there are any does not hang on wishes, so the first ones found will do. */
        boolean canBe(int itsRules, int itsMost) {
            forget();
            rules = itsRules;
            most = itsMost;
            listArrangements();
            countNoneBroken();
            search();
            return fewest != NONE;
        }

        int bestShift(int person, int day) {
            for (int i = 0; i < TEAM; i++) {
                if (team[i] == person && day >= 0 && day < DAYS && fewest != NONE) {
                    return shiftIn(codes[best[day]], i);
                }
            }
            return NONE;
        }

        private boolean findTeam(Staff staff, int shop) {
            int size = 0;
            for (int p = 0; p < staff.size && size < TEAM; p++) {
                if (staff.here[p] && staff.shop[p] == shop) {
                    team[size] = p;
                    size++;
                }
            }
            return size == TEAM;
        }

        /** The first one of the team stands highest in a code, so that codes go up as the document orders them. */
        private static int shiftIn(int code, int i) {
            return code >> 2 * (TEAM - 1 - i) & 3;
        }

        private void listArrangements() {
            arrangements = 0;
            for (int code = 0; code < CODES && arrangements < ARRANGEMENTS; code++) {
                if (meetsNeed(code)) {
                    codes[arrangements] = code;
                    markShifts(arrangements, code);
                    arrangements++;
                }
            }
        }

        private boolean meetsNeed(int code) {
            for (int shift = 0; shift < OFF; shift++) {
                int n = 0;
                for (int i = 0; i < TEAM; i++) {
                    n += shiftIn(code, i) == shift ? 1 : 0;
                }
                if (n != need[shift]) {
                    return false;
                }
            }
            return true;
        }

        private void markShifts(int arrangement, int code) {
            nights[arrangement] = 0;
            byDay[arrangement] = 0;
            for (int i = 0; i < TEAM; i++) {
                int shift = shiftIn(code, i);
                if (shift == NIGHT) {
                    nights[arrangement] |= 1 << 3 * i;
                } else if (shift != OFF) {
                    byDay[arrangement] |= 1 << 3 * i;
                }
            }
        }

        private void countBroken(Staff staff) {
            leastAhead[DAYS] = 0;
            for (int day = DAYS - 1; day >= 0; day--) {
                int least = TEAM;
                for (int a = 0; a < arrangements; a++) {
                    broken[day][a] = brokenOn(staff, day, codes[a]);
                    least = Math.min(least, broken[day][a]);
                }
                leastAhead[day] = leastAhead[day + 1] + least;
            }
        }

        private int brokenOn(Staff staff, int day, int code) {
            int n = 0;
            for (int i = 0; i < TEAM; i++) {
                int shift = shiftIn(code, i);
                n += shift != OFF && staff.wishesAgainst(team[i], day, shift) ? 1 : 0;
            }
            return n;
        }

        private void countNoneBroken() {
            for (int day = 0; day < DAYS; day++) {
                leastAhead[day] = 0;
                for (int a = 0; a < arrangements; a++) {
                    broken[day][a] = 0;
                }
            }
            leastAhead[DAYS] = 0;
        }

        private void search() {
            fewest = NONE;
            for (int i = 0; i < SEEN; i++) {
                seen[i] = UNUSED;
            }
            searchFrom(0, 0, 0, 0);
        }

        private void searchFrom(int day, int sums, int lastNights, int brokenSoFar) {
            if (day > DAYS || fewest != NONE && brokenSoFar + leastAhead[day] >= fewest) {
                return;
            }
            if (day == DAYS) {
                keepChosen(brokenSoFar);
            } else if (!isSeen(((long) lastNights << 24 | sums) * DAYS + day, brokenSoFar)) {
                searchOn(day, sums, lastNights, brokenSoFar);
            }
        }

        private void searchOn(int day, int sums, int lastNights, int brokenSoFar) {
            for (int a = 0; a < arrangements; a++) {
                if ((lastNights & byDay[a]) != 0) {
                    continue;
                }
                int more = sums + countedBy(a);
                if (hasTooMany(more) || isUnfair(more, DAYS - 1 - day)) {
                    continue;
                }
                chosen[day] = a;
                int restAhead = (rules & REST_RULE) != 0 ? nights[a] : 0;
                searchFrom(day + 1, more, restAhead, brokenSoFar + broken[day][a]);
            }
        }

        /** What no rule asks for is not summed, so that more ways are alike. */
        private int countedBy(int a) {
            int counted = (rules & FAIR_RULE) != 0 ? nights[a] : 0;
            return (rules & MOST_RULE) != 0 ? counted | (nights[a] | byDay[a]) << 12 : counted;
        }

        private boolean hasTooMany(int sums) {
            for (int i = 0; i < TEAM; i++) {
                if ((sums >> 12 + 3 * i & 7) > most) {
                    return true;
                }
            }
            return false;
        }

        /** Each day ahead can still bring two people nearer by one night. */
        private static boolean isUnfair(int sums, int daysAhead) {
            int least = sums & 7;
            int greatest = least;
            for (int i = 1; i < TEAM; i++) {
                int n = sums >> 3 * i & 7;
                least = Math.min(least, n);
                greatest = Math.max(greatest, n);
            }
            return greatest - least >= 2 + daysAhead;
        }

        private void keepChosen(int brokenSoFar) {
            fewest = brokenSoFar;
            for (int day = 0; day < DAYS; day++) {
                best[day] = chosen[day];
            }
        }

        private boolean isSeen(long key, int brokenSoFar) {
            int slot = (int) ((key * 0x9E3779B97F4A7C15L >>> 40) & SEEN - 1);
            for (int i = 0; i < SEEN; i++) {
                if (seen[slot] == key && seenBroken[slot] <= brokenSoFar) {
                    return true;
                }
                if (seen[slot] == key || seen[slot] == UNUSED) {
                    seen[slot] = key;
                    seenBroken[slot] = brokenSoFar;
                    return false;
                }
                slot = slot + 1 & SEEN - 1;
            }
            return false;
        }
    }

    /** Studies of pieces, and the times that they give. */
    private static final class Studies {
        final int[] count = new int[PIECES];
        private final int[][] taken = new int[PIECES][STUDIES];
        private final int[][] day = new int[PIECES][STUDIES];

        int add(int piece, int v, int now) {
            if (count[piece] >= STUDIES) {
                return ROOM;
            }
            taken[piece][count[piece]] = v;
            day[piece][count[piece]] = now;
            count[piece]++;
            return count[piece];
        }

        int timeOn(int piece, int itsDay) {
            int n = 0;
            int sum = 0;
            int least = NEVER;
            int greatest = 0;
            for (int i = 0; i < count[piece]; i++) {
                if (day[piece][i] <= itsDay) {
                    n++;
                    sum += taken[piece][i];
                    least = Math.min(least, taken[piece][i]);
                    greatest = Math.max(greatest, taken[piece][i]);
                }
            }
            return n < 3 ? NONE : (sum - least - greatest) / (n - 2);
        }
    }

    /** The search for an order of matters over sessions. */
    private static final class Plan {
        static final int PLACES = 7;

        int size = 0;
        private final int[] length = new int[PLANNED];
        private final int[] due = new int[PLANNED];
        private final int[] waits = new int[PLANNED];
        private final int[] place = new int[PLANNED];
        private final int[] full = new int[PLACES];
        final int[] best = new int[PLANNED];
        private int bestLate = NONE;
        private int roomy = NONE;

        int add(int itsLength, int itsDue, int itsWaits) {
            if (size >= PLANNED) {
                return ROOM;
            }
            length[size] = itsLength;
            due[size] = itsDue;
            waits[size] = itsWaits;
            size++;
            roomy = NONE;
            return size - 1;
        }

        int leastLate(int itsRoomy) {
            if (roomy != itsRoomy) {
                roomy = itsRoomy;
                bestLate = NONE;
                for (int p = 0; p < PLACES; p++) {
                    full[p] = 0;
                }
                settleFrom(0, 0);
            }
            return bestLate;
        }

        private void settleFrom(int number, int late) {
            if (number > size || bestLate != NONE && late + leastLateFrom(number) >= bestLate) {
                return;
            }
            if (number == size) {
                keepPlaces(late);
            } else {
                settleOn(number, late);
            }
        }

        private void settleOn(int number, int late) {
            for (int p = firstPlace(number); p < PLACES; p++) {
                if (full[p] + length[number] > roomy) {
                    continue;
                }
                full[p] += length[number];
                place[number] = p;
                settleFrom(number + 1, late + Math.max(0, p - due[number]));
                full[p] -= length[number];
            }
        }

        private int firstPlace(int number) {
            int first = 0;
            for (int i = 0; i < number; i++) {
                if ((waits[number] >> i & 1) == 1) {
                    first = Math.max(first, place[i] + 1);
                }
            }
            return first;
        }

        /** What those that have no place yet must be late at least, as if none of them took room from another. */
        private int leastLateFrom(int number) {
            int late = 0;
            for (int i = number; i < size; i++) {
                int p = firstPlace(i);
                while (p < PLACES && full[p] + length[i] > roomy) {
                    p++;
                }
                place[i] = p;
                late += Math.max(0, p - due[i]);
            }
            return late;
        }

        private void keepPlaces(int late) {
            bestLate = late;
            for (int i = 0; i < size; i++) {
                best[i] = place[i];
            }
        }
    }
}
