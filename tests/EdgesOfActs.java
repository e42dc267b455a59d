/** The edges that the document names under II, and of promises 7 to 11. */
public final class EdgesOfActs {
    private EdgesOfActs() {
    }

    private static WorksCouncil fed(int bytes) {
        WorksCouncil x = new WorksCouncil();
        Setups.feed(x, ("A1:n" + "+n".repeat(28)).substring(0, bytes));
        return x;
    }

    /** So many acts, and a text that could become one more. */
    private static WorksCouncil acts(int n) {
        WorksCouncil x = new WorksCouncil();
        for (int i = 0; i < n; i++) Setups.act(x, "A" + i % 5 + ":m=" + i, 0);
        Setups.feed(x, "H4:1>0");
        return x;
    }

    private static WorksCouncil onDay(int day, String text) {
        WorksCouncil x = new WorksCouncil();
        x.days(day);
        Setups.feed(x, text);
        return x;
    }

    /** Promise 7. */
    private static void feeding() {
        Edge.says("promise 7: n (1 .. 8) bytes come to the TEXT. -4; -6");
        Edge.range(Setups::empty, "feed", (x, n) -> x.feed(n, -1), 1, 8, -4, -6);
        Edge.range(Setups::busy, "feed", (x, n) -> x.feed(n, 0), 1, 8, -4, -6);
        Edge.says("promise 7: how many it has");
        Edge.taken(Setups::empty, "feed(1)", x -> x.feed(1, 0), 1);
        Edge.taken(Setups::empty, "feed(8)", x -> x.feed(8, 0), 8);
        Edge.taken(Setups::busy, "feed(5) behind 3", x -> x.feed(5, 0), 8);
        Edge.says("promise 7: -6 above 60, too; II: 60 bytes at most");
        Edge.taken(() -> fed(52), "the last eight", x -> x.feed(8, 0), 60);
        Edge.refused(() -> fed(53), "one of eight too many", x -> x.feed(8, 0), -6);
        Edge.taken(() -> fed(53), "the last seven", x -> x.feed(7, 0), 60);
        Edge.taken(() -> fed(59), "the last one", x -> x.feed(1, 0), 60);
        Edge.refused(() -> fed(59), "one of two too many", x -> x.feed(2, 0), -6);
        Edge.refused(() -> fed(60), "the 61st", x -> x.feed(1, 0), -6);
        Edge.refused(() -> fed(60), "full, n of 8", x -> x.feed(8, 0), -6);
        Edge.refused(() -> fed(60), "full, n of 9", x -> x.feed(9, 0), -6);
        Edge.refused(() -> fed(60), "full, n of 0", x -> x.feed(0, 0), -4);
        Edge.refused(() -> fed(60), "full, the greatest n", x -> x.feed(Integer.MAX_VALUE, 0), -6);
        Edge.says("promise 7: n bytes come, the lowest first");
        WorksCouncil x = new WorksCouncil();
        x.feed(1, 0x3041L);
        Edge.due("one of two", x.count(9), 1);
        x.feed(5, 0xFF_30_3E_31_3A_30L);
        Edge.due("the rest", x.act(0), 0);
        WorksCouncil y = new WorksCouncil();
        y.feed(8, 0x31_3C_30_2B_31_3A_34_48L);
        Edge.due("H4:1+0<1, the eighth byte, too", y.act(0), 0);
        WorksCouncil z = new WorksCouncil();
        z.feed(8, 0xB1_3C_30_2B_31_3A_34_48L);
        Edge.due("H4:1+0< and a byte of 177", z.act(0), -27);
        WorksCouncil w = new WorksCouncil();
        w.feed(8, Long.MIN_VALUE | 0x31_3C_30_2B_31_3A_34_48L);
        Edge.due("the same", w.act(0), -27);
    }

    /** Promise 8. */
    private static void acting() {
        Edge.says("promise 8: -4 ahead of now; -6 (DAY above 1000); the TEXT stays");
        Edge.range(() -> acts(0), "act on 0", (x, day) -> x.act(day), 0, 1000, -4, -6);
        Edge.range(() -> onDay(7, "A1:1>0"), "act on 7", (x, day) -> x.act(day), 7, 1000, -4, -6);
        Edge.range(() -> onDay(1000, "A1:1>0"), "act on 1000", (x, day) -> x.act(day), 1000, 1000, -4, -6);
        Edge.says("II: ACTS (24 at most); promise 8: -6 24");
        Edge.taken(() -> acts(0), "the first", x -> x.act(0), 0);
        Edge.taken(() -> acts(23), "the 24th", x -> x.act(0), 23);
        Edge.refused(() -> acts(24), "the 25th", x -> x.act(0), -6);
        Edge.refused(() -> acts(24), "the 25th, ahead of now", x -> x.act(-1), -4);
        Edge.refused(() -> acts(24), "the 25th, above 1000", x -> x.act(1001), -6);
        Edge.says("promise 8: REFUSALS first");
        Edge.refused(() -> onDay(3, "x"), "a fault, ahead of now", x -> x.act(2), -4);
        Edge.refused(() -> onDay(3, "x"), "a fault, above 1000", x -> x.act(1001), -6);
        Edge.refused(() -> onDay(3, ""), "no text, ahead of now", x -> x.act(2), -4);
        Edge.refused(() -> { WorksCouncil x = acts(24); x.feed(1, 'x'); return x; }, "a fault, 24 acts", x -> x.act(0), -6);
        Edge.says("promise 8: the TEXT, which has none then (with a FAULT neither), nothing is counted");
        WorksCouncil x = acts(24);
        x.act(0);
        Edge.due("refused: it stays", x.count(9), 6);
        WorksCouncil y = acts(1);
        y.act(0);
        Edge.due("none then", y.count(9), 0);
        Edge.due("an act more", y.count(2), 2);
        Edge.due("the empty text", y.act(0), -20);
        Setups.feed(y, "A1:1>");
        Edge.due("a fault at the end", y.act(0), -25);
        Edge.due("none then", y.count(9), 0);
        Edge.due("no act more", y.count(2), 2);
        Edge.due("nothing is counted", Edge.refusals(y), 0);
        Setups.feed(y, "A1:1>0");
        Edge.due("of a text that had a fault nothing is left", y.act(0), 2);
        Edge.says("II: an ACT keeps its TEXT of 60 bytes");
        WorksCouncil z = new WorksCouncil();
        Setups.feed(z, "B4:" + "1+".repeat(26) + "0=26 ");
        Edge.due("60 bytes, the last can not stand", z.act(0), -79);
        Setups.feed(z, "B4:" + "1+".repeat(26) + "00=26");
        Edge.due("60 bytes", z.act(0), 0);
        Setups.feed(z, "B4:" + "1+".repeat(26) + "00=27");
        Edge.due("60 bytes", z.act(0), 1);
        Edge.due("kind by the first", z.kind(1, 1, 0, false, 1), 0);
        Setups.feed(z, "B4:" + "1+".repeat(27) + "000");
        Edge.due("60 bytes, something lacks", z.act(0), -80);
    }

    private static void due(String text, int fault) {
        Edge.due(text, Setups.faultOf(text), fault);
    }

    private static void heads() {
        Edge.says("II: a WHAT (\"A\" .. \"H\": 0 .. 7), a KIND (\"0\" .. \"4\"), \":\"");
        due("@1:1>0", 0);
        due("A1:1>0", -1);
        due("H1:1>0", -1);
        due("I1:1>0", 0);
        due("A/:1>0", 1);
        due("A0:1>0", -1);
        due("A4:1>0", -1);
        due("A5:1>0", 1);
        due("A191>0", 2);
        due("A1;1>0", 2);
        WorksCouncil x = new WorksCouncil();
        Edge.due("A is 0", Setups.act(x, "A4:1>0", 0), 0);
        Edge.due("H is 7", Setups.act(x, "H3:1>0", 0), 1);
        int[] kinds = {4, 0, 0, 0, 0, 0, 0, 3};
        for (int what = 0; what < 8; what++) Edge.due("kind of " + what, x.kind(what, 1, 0, false, 0), kinds[what]);
        Edge.says("FAULT: the end, if something lacks");
        due("", 0);
        due("A", 1);
        due("A1", 2);
        due("A1:", 3);
        due("A1:1", 4);
        due("A1:1>", 5);
        due("A1:1>0&", 7);
        due("A1:1>0|", 7);
        due("A1:1>0&!", 8);
        due("A1:1>0&(", 8);
        due("A1:(1>0", 7);
        due("A1:1+", 5);
        due("A1:1-", 5);
        due("A1:1*", 5);
        due("A1:1>0*", 7);
        due("A1:!!!!!", 8);
        due("A1:(((((", 8);
        due("A1:(((((1>0))))", 15);
        due("A1:n", 4);
        due("A1:n+1", 6);
        Edge.says("FAULT: the place of the first byte that can not stand, of several the first");
        due("I9;", 0);
        due("A9;", 1);
        due("A1;)", 2);
        due("A1:)1>0", 3);
        due("A1:1>0))", 6);
        due("A1:1>0 1>0", 6);
    }

    private static void unitsAndSums() {
        Edge.says("II: a NUMBER (1 to 4 digits)");
        due("A1:9>0", -1);
        due("A1:9999>0", -1);
        due("A1:99999>0", 7);
        due("A1:0>9999", -1);
        due("A1:0>99999", 9);
        due("A1:0>9999+99999", 14);
        due("A1:0000>0", -1);
        due("A1:00000>0", 7);
        due("A1:>0", 3);
        due("A1:/>0", 3);
        due("A1::>0", 3);
        Edge.says("II: or a FACT: n, w, s, m, c, u");
        for (String fact : new String[] {"n", "w", "s", "m", "c", "u"}) due("A1:" + fact + ">" + fact, -1);
        for (String other : new String[] {"l", "o", "v", "x", "r", "t", "b", "d", "N", "\0", "\u00ff", " "}) {
            due("A1:" + other + ">0", 3);
            due("A1:0>" + other, 5);
        }
        due("A1:nn>0", 4);
        due("A1:n1>0", 4);
        due("A1:1n>0", 4);
        Edge.says("II: SUM, one of \"<\", \"=\", \">\", SUM");
        due("A1:1<0", -1);
        due("A1:1=0", -1);
        due("A1:1;0", 4);
        due("A1:1?0", 4);
        due("A1:1>0>0", 6);
        due("A1:1>=0", 5);
        Edge.says("II: SUM: UNIT { \"+\" UNIT, \"-\" UNIT, \"*\" UNIT }");
        due("A1:1+1-1*1>1*1-1+1", -1);
        due("A1:1++1>0", 5);
        due("A1:-1>0", 3);
        due("A1:1,1>0", 4);
        due("A1:1/1>0", 4);
        due("A1:1:1>0", 4);
        due("A1:1.1>0", 4);
        due("A1:1)1>0", 4);
        due("A1:(1+1)>0", 7);
        due("A1:1+(1)>0", 5);
    }

    private static void depths() {
        Edge.says("II: \"!\" and \"(\" are 5 deep at most; of a sixth its own place");
        due("A1:!!!!!1>0", -1);
        due("A1:!!!!!!1>0", 8);
        due("A1:(((((1>0)))))", -1);
        due("A1:((((((1>0))))))", 8);
        due("A1:!(!(!1>0))", -1);
        due("A1:!(!(!(1>0)))", 8);
        due("A1:(!(!(1>0)))", -1);
        due("A1:(!(!(!1>0)))", 8);
        due("A1:!!!!((1>0))", 8);
        due("A1:((((!!1>0))))", 8);
        due("A1:!!!!!(", 8);
        Edge.says("II: a \"!\" till its PART ends");
        due("A1:!!!!!1>0&!!!!!1>0", -1);
        due("A1:!!!!!1>0|!!!!!!1>0", 17);
        due("A1:!!(!(1>0)&((1>0)))", -1);
        due("A1:!!(!(1>0)&(((1>0))))", 15);
        due("A1:!!!(!1>0&!1>0|!1>0)&!!!!!1>0", -1);
        due("A1:!(1>0)&(((((1>0)))))", -1);
        due("A1:!(1>0)&((((((1>0))))))", 15);
        due("A1:((((1>0)&!1>0)))", -1);
        due("A1:((((1>0)&!!1>0)))", -1);
        due("A1:((((1>0)&!!!1>0)))", 14);
        due("A1:(((((1>0)&1>0))))", -1);
        due("A1:(((((1>0)&!1>0))))", -1);
        due("A1:!((((1>0)&!1>0)))", -1);
        due("A1:!((((1>0)&!!1>0)))", 14);
    }

    /** A fault leaves nothing behind for the next text of the same object. */
    private static void faultsApart() {
        Edge.says("promise 8: the TEXT has none then (with a FAULT neither)");
        WorksCouncil x = new WorksCouncil();
        String[] faults = {"A1:(((((", "A1:!!!!!", "A1:!", "A1:(1>0|", "A1:((((!1>0|1>1)", "A1:!(1>0", "A1:!!!(1>0"};
        for (String fault : faults) {
            Edge.due(fault, Setups.act(x, fault, 0), -20 - fault.length());
            Edge.due("(((((1>0)))))", holds(x, "(((((1>0)))))", 1, 0, false), 1);
            Edge.due(fault, Setups.act(x, fault, 0), -20 - fault.length());
            Edge.due("1>0", holds(x, "1>0", 1, 0, false), 1);
            Edge.due(fault, Setups.act(x, fault, 0), -20 - fault.length());
            Edge.due("1>1", holds(x, "1>1", 1, 0, false), 0);
            Edge.due(fault, Setups.act(x, fault, 0), -20 - fault.length());
            Edge.due("six deep", Setups.act(x, "A1:!!!!!!1>0", 0), -28);
            Edge.due(fault, Setups.act(x, fault, 0), -20 - fault.length());
            Edge.due("six deep in the second PART", Setups.act(x, "A1:1>0&!!!!!!1>0", 0), -32);
            WorksCouncil y = new WorksCouncil();
            Setups.act(y, "H4:1>0", 0);
            Setups.act(y, "G4:1>1", 0);
            Setups.act(y, fault, 0);
            Edge.due("an ACT ahead of it that holds", y.kind(7, 1, 0, false, 0), 4);
            Setups.act(y, fault, 0);
            Edge.due("an ACT ahead of it that does not", y.kind(6, 1, 0, false, 0), 0);
        }
    }

    private static void joins() {
        Edge.says("II: RULE: TERM { \"|\" TERM }. TERM: PART { \"&\" PART }. PART: \"!\" PART, \"(\" RULE \")\"");
        for (int bits = 0; bits < 8; bits++) {
            boolean a = (bits & 4) != 0;
            boolean b = (bits & 2) != 0;
            boolean c = (bits & 1) != 0;
            join("a|b|c", a, b, c, a | b | c);
            join("a&b&c", a, b, c, a & b & c);
            join("a|b&c", a, b, c, a | b & c);
            join("a&b|c", a, b, c, a & b | c);
            join("(a|b)&c", a, b, c, (a | b) & c);
            join("a&(b|c)", a, b, c, a & (b | c));
            join("(a|b&c)&a", a, b, c, (a | b & c) & a);
            join("(a&b|c)&(c|b)", a, b, c, (a & b | c) & (c | b));
            join("(a|b)|(a&c)", a, b, c, a | b);
            join("!a&b|c", a, b, c, !a & b | c);
            join("!(a&b)|c", a, b, c, !(a & b) | c);
            join("!(a|b)&!c", a, b, c, !(a | b) & !c);
            join("!!a&!!!b|c", a, b, c, a & !b | c);
            join("!(!(a|b)|c)", a, b, c, (a | b) & !c);
            join("((a|b)&(b|c))|!(a)", a, b, c, (a | b) & (b | c) | !a);
            join("(((((a)|b)|c))&a)|b", a, b, c, a | b);
        }
    }

    private static void join(String rule, boolean a, boolean b, boolean c, boolean want) {
        String text = rule.replace("a", a ? "1>0" : "1<0").replace("b", b ? "1=1" : "1=0").replace("c", c ? "0<1" : "0>1");
        Edge.due(rule + ": " + text, holds(new WorksCouncil(), text, 1, 0, false), want ? 1 : 0);
    }

    /** Whether a rule holds now: the kind of an act with it, which is struck at once. */
    private static int holds(WorksCouncil x, String rule, int shops, int sum, boolean urgent) {
        int act = Setups.act(x, "H4:" + rule, x.count(0));
        int kind = x.kind(7, shops, sum, urgent, 0);
        x.strike(act, x.count(0));
        return act < 0 ? act : kind == 4 ? 1 : 0;
    }

    private static void facts() {
        Edge.says("II, FACTS: n how many are HERE in the SHOPS that are concerned, w in all");
        WorksCouncil x = new WorksCouncil();
        Edge.due("nobody", holds(x, "n=0&w=0", 63, 0, false), 1);
        for (int i = 0; i < 24; i++) x.person(i < 20 ? 5 : 0, -9000, 0, 0, 0);
        Edge.due("all 24", holds(x, "n=24&w=24", 63, 0, false), 1);
        Edge.due("of shop 5", holds(x, "n=20&w=24", 32, 0, false), 1);
        Edge.due("of shop 0", holds(x, "n=4&w=24", 1, 0, false), 1);
        Edge.due("of other shops", holds(x, "n=0&w=24", 30, 0, false), 1);
        x.leave(23);
        Edge.due("who left", holds(x, "n=3&w=23", 1, 0, false), 1);
        Edge.says("II, FACTS: s how many SHOPS are concerned");
        Edge.due("one", holds(x, "s=1", 32, 0, false), 1);
        Edge.due("six", holds(x, "s=6", 63, 0, false), 1);
        Edge.says("II, FACTS: m the SUM");
        Edge.due("0", holds(x, "m=0", 1, 0, false), 1);
        Edge.due("9999", holds(x, "m=9999", 1, 9999, false), 1);
        Edge.says("II, FACTS: c how many SEATS there are");
        Edge.due("none", holds(x, "c=0", 1, 0, false), 1);
        x.votes(3, 1);
        x.elect(9);
        Edge.due("nine", holds(x, "c=9", 1, 0, false), 1);
        Edge.says("II, FACTS: u 1 if URGENT is told, else 0");
        Edge.due("told", holds(x, "u=1", 1, 0, true), 1);
        Edge.due("not told", holds(x, "u=0", 1, 0, false), 1);
    }

    private static void sumsThatGoRound() {
        Edge.says("II: reckoned as ints: what is too great goes round");
        WorksCouncil x = new WorksCouncil();
        Edge.due("2147483647 is the greatest", holds(x, "8192*512*512-1>0", 1, 0, false), 1);
        Edge.due("one above it is the least", holds(x, "8192*512*512<0", 1, 0, false), 1);
        Edge.due("+ goes round", holds(x, "8192*512*512-1+1<0", 1, 0, false), 1);
        Edge.due("- goes round", holds(x, "0-8192*512*512-1>0", 1, 0, false), 1);
        Edge.due("* goes round to 0", holds(x, "8192*512*512*2=0", 1, 0, false), 1);
        Edge.due("m*m*m", holds(x, "m*m*m*m*m=" + "0+m*m*m*m*m", 1, 9999, false), 1);
        Edge.due("9999*9999*21 is not too great", holds(x, "m*m*21>0", 1, 9999, false), 1);
        Edge.due("9999*9999*22 is", holds(x, "m*m*22<0", 1, 9999, false), 1);
        Edge.due("the greatest is above the least", holds(x, "8192*512*512-1>8192*512*512", 1, 0, false), 1);
        Edge.due("the least is below the greatest", holds(x, "8192*512*512<8192*512*512-1", 1, 0, false), 1);
        Edge.says("II: SUM (from the left on)");
        Edge.due("2+3*4 is 20", holds(x, "2+3*4=20", 1, 0, false), 1);
        Edge.due("9-3-2 is 4", holds(x, "9-3-2=4", 1, 0, false), 1);
        Edge.due("0-1 is below 0", holds(x, "0-1<0", 1, 0, false), 1);
        Edge.says("II: \"<\", \"=\", \">\" of equals and of neighbours");
        String[] signs = {"<", "=", ">"};
        for (int right = 4; right <= 6; right++) {
            for (int sign = 0; sign < 3; sign++) {
                int want = Integer.compare(right, 5) == 1 - sign ? 1 : 0;
                Edge.due("5" + signs[sign] + right, holds(new WorksCouncil(), "5" + signs[sign] + right, 1, 0, false), want);
            }
        }
    }

    /** Promise 9. */
    private static void strikes() {
        Edge.says("promise 9: -1; -4; -6");
        Edge.range(Setups::busy, "strike", (x, act) -> x.strike(act, 2), 0, 3, -1, -1);
        Edge.range(() -> acts(24), "strike", (x, act) -> x.strike(act, 0), 0, 23, -1, -1);
        Edge.range(() -> acts(1), "strike from", (x, day) -> x.strike(0, day), 0, 1000, -4, -6);
        Edge.range(Setups::busy, "strike from, on 2", (x, day) -> x.strike(3, day), 2, 1000, -4, -6);
        Edge.says("promise 9: -3 it was told so");
        Edge.Made struck = () -> { WorksCouncil x = Setups.busy(); x.strike(1, 1000); return x; };
        Edge.refused(struck, "told so for another day", x -> x.strike(1, 2), -3);
        Edge.refused(struck, "-3 ahead of -4", x -> x.strike(1, 1), -3);
        Edge.refused(struck, "-3 ahead of -6", x -> x.strike(1, 1001), -3);
        Edge.refused(struck, "-1 ahead of -4", x -> x.strike(4, 1), -1);
        Edge.taken(Setups::busy, "strike", x -> x.strike(0, 2), 1);
        Edge.says("II: in force from a DAY on, till it is STRUCK from a DAY on");
        WorksCouncil x = new WorksCouncil();
        Setups.act(x, "A1:1>0", 2);
        Edge.due("strike", x.strike(0, 4), 1);
        int[] kinds = {0, 0, 1, 1, 0, 0};
        for (int day = 0; day < 6; day++) {
            Edge.due("kind on " + day, x.kind(0, 1, 0, false, 0), kinds[day]);
            x.days(1);
        }
        WorksCouncil y = new WorksCouncil();
        Setups.act(y, "A1:1>0", 5);
        Edge.due("struck ahead of its first day", y.strike(0, 3), 1);
        y.days(5);
        Edge.due("never in force", y.kind(0, 1, 0, false, 0), 0);
        Setups.act(y, "A2:1>0", 5);
        Edge.due("in force at once", y.kind(0, 1, 0, false, 0), 2);
        Edge.due("struck at once", y.strike(1, 5), 1);
        Edge.due("not in force", y.kind(0, 1, 0, false, 0), 0);
        WorksCouncil z = new WorksCouncil();
        Setups.act(z, "A1:1>0", 1000);
        z.strike(0, 1000);
        Setups.act(z, "A2:1>0", 1000);
        z.days(999);
        Edge.due("the day ahead of the last", z.kind(0, 1, 0, false, 0), 0);
        z.days(1);
        Edge.due("on the last day", z.kind(0, 1, 0, false, 1), 1);
    }

    /** Promise 10. */
    private static void kinds() {
        Edge.says("promise 10: -2 WHAT, what; -4 SHOPS below 1, SUM; -6");
        Edge.range(Setups::busy, "WHAT", (x, v) -> x.kind(v, 1, 0, false, 0), 0, 7, -2, -2);
        Edge.range(Setups::busy, "what", (x, v) -> x.kind(0, 1, 0, false, v), 0, 3, -2, -2);
        Edge.range(Setups::busy, "shops", (x, v) -> x.kind(0, v, 0, false, 0), 1, 63, -4, -6);
        Edge.range(Setups::busy, "sum", (x, v) -> x.kind(0, 1, v, false, 0), 0, 9999, -4, -6);
        Edge.refused(Setups::busy, "-2 ahead of -4", x -> x.kind(8, 0, -1, false, 0), -2);
        Edge.refused(Setups::busy, "-2 ahead of -4", x -> x.kind(0, 0, -1, false, 4), -2);
        Edge.refused(Setups::busy, "-2 ahead of -6", x -> x.kind(-1, 64, 10000, false, 0), -2);
        Edge.refused(Setups::busy, "-4 ahead of -6", x -> x.kind(0, 0, 10000, false, 0), -4);
        Edge.refused(Setups::busy, "-4 ahead of -6", x -> x.kind(0, 64, -1, false, 0), -4);
        for (int what = 0; what < 4; what++) {
            int asked = what;
            int[] want = {1, 0, -9, -9};
            Edge.says("promise 10: KIND (0), its ACT (1), a QUARREL's ACTS (2, 3)");
            Edge.leaves(Setups::busy, "what " + what, x -> x.kind(0, 1, 0, false, asked), want[what]);
            int[] without = {0, -9, -9, -9};
            Edge.leaves(Setups::busy, "what " + what + ", none", x -> x.kind(7, 1, 0, false, asked), without[what]);
        }
        Edge.says("II: the one in force from the latest DAY on, of several the greatest number");
        WorksCouncil x = new WorksCouncil();
        Setups.act(x, "A1:1>0", 1);
        Setups.act(x, "A2:1>0", 2);
        Setups.act(x, "A3:1>0", 0);
        Setups.act(x, "A4:1>0", 2);
        Setups.act(x, "A0:1>0", 1);
        int[] acts = {2, 4, 3};
        for (int day = 0; day < 3; day++) {
            Edge.due("act on " + day, x.kind(0, 1, 0, false, 1), acts[day]);
            x.days(1);
        }
        x.strike(3, 3);
        Edge.due("without the greatest", x.kind(0, 1, 0, false, 1), 1);
        WorksCouncil full = acts(23);
        full.act(0);
        Edge.due("the 24th act gives it", full.kind(7, 1, 0, false, 1), 23);
    }

    private static void quarrels() {
        Edge.says("II: QUARREL: the least one of which there is such another, and the least such other");
        WorksCouncil x = new WorksCouncil();
        String[] texts = {"A1:m=9", "A2:m>0", "A2:m>1", "B3:m>0", "A1:m>2", "A3:m>2"};
        for (String text : texts) Setups.act(x, text, 0);
        int[][] due = {{0, -9, -9}, {1, -9, -9}, {2, -9, -9}, {3, 1, 4}, {9, 0, 1}};
        for (int[] row : due) {
            Edge.due("the one, sum " + row[0], x.kind(0, 1, row[0], false, 2), row[1]);
            Edge.due("the other, sum " + row[0], x.kind(0, 1, row[0], false, 3), row[2]);
        }
        Edge.says("II: QUARREL: of all ACTS in force now");
        Setups.act(x, "A4:m=1", 1);
        Edge.due("not in force yet", x.kind(0, 1, 1, false, 2), -9);
        x.days(1);
        Edge.due("in force now", x.kind(0, 1, 1, false, 2), 1);
        Edge.due("in force now", x.kind(0, 1, 1, false, 3), 6);
        x.strike(1, 1);
        Edge.due("struck", x.kind(0, 1, 1, false, 2), -9);
        Edge.due("struck", x.kind(0, 1, 1, false, 3), -9);
        Edge.says("II: QUARREL: kind 0 is another kind, too");
        Setups.act(x, "A0:m=1", 1);
        Edge.due("the one", x.kind(0, 1, 1, false, 2), 6);
        Edge.due("the other", x.kind(0, 1, 1, false, 3), 7);
    }

    /** Promise 11. */
    private static void terms() {
        Edge.says("promise 11: -2 KIND, what; -4; -6: NEEDS 0 .. 255, SPAN 0 .. 30, SILENCE 0, 1");
        Edge.range(Setups::busy, "kind", (x, v) -> x.term(v, 0, 0), 0, 4, -2, -2);
        Edge.range(Setups::busy, "what", (x, v) -> x.term(0, v, 0), 0, 2, -2, -2);
        int[] most = {255, 30, 1};
        for (int kind = 0; kind < 5; kind++) {
            for (int what = 0; what < 3; what++) {
                int of = kind;
                int which = what;
                Edge.range(Setups::busy, "term " + kind + " " + what, (x, v) -> x.term(of, which, v), 0, most[what], -4, -6);
            }
        }
        Edge.refused(Setups::busy, "-2 ahead of -4", x -> x.term(5, 0, -1), -2);
        Edge.refused(Setups::busy, "-2 ahead of -6", x -> x.term(0, 3, 256), -2);
        Edge.says("promise 11: what it was");
        WorksCouncil x = new WorksCouncil();
        for (int what = 0; what < 3; what++) {
            x.term(4, what, most[what]);
            Edge.due("the greatest", x.term(4, what, 0), most[what]);
            Edge.due("the least", x.term(4, what, most[what]), 0);
        }
        Edge.due("another kind's", x.term(3, 1, 0), 5);
    }

    public static void main(String[] args) {
        feeding();
        acting();
        heads();
        unitsAndSums();
        depths();
        faultsApart();
        joins();
        facts();
        sumsThatGoRound();
        strikes();
        kinds();
        quarrels();
        terms();
        Edge.finish("edges of acts");
    }
}
