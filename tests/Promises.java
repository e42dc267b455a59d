/** For each promise of the document ordinary calls, the edges that it names, and wrong ones, each with the answer due. */
public final class Promises {
    private static int wrong = 0;
    private static int asked = 0;
    private static String promise = "";

    private static void due(String call, long got, long want) {
        asked++;
        if (got != want) {
            wrong++;
            System.out.println(promise + ": " + call + " answered " + got + ", due is " + want);
        }
    }

    /** Feeds a text in pieces of eight bytes at most, the lowest byte first. */
    private static void feedAll(WorksCouncil x, String text) {
        for (int i = 0; i < text.length(); i += 8) {
            String piece = text.substring(i, Math.min(text.length(), i + 8));
            long bytes = 0;
            for (int b = 0; b < piece.length(); b++) bytes |= (long) piece.charAt(b) << 8 * b;
            x.feed(piece.length(), bytes);
        }
    }

    private static int actOf(WorksCouncil x, String text, int from) {
        feedAll(x, text);
        return x.act(from);
    }

    /** Where a text's fault lies, -1 without one. */
    private static int faultOf(String text) {
        int answer = actOf(new WorksCouncil(), text, 0);
        return answer >= 0 ? -1 : -20 - answer;
    }

    /** Matters of A are of kind 1, of B of 2, of C of 3, of D of 4, of E of 0; three people of shop 0, one of shop 1. */
    private static WorksCouncil usual() {
        WorksCouncil x = new WorksCouncil();
        for (int what = 0; what < 4; what++) actOf(x, (char) ('A' + what) + "" + (what + 1) + ":1>0", 0);
        x.person(0, -10000, -3000, 2, 0);
        x.person(0, -12000, -400, 0, 30);
        x.person(0, -9000, -400, 1, 0);
        x.person(1, -8000, -100, 0, 0);
        return x;
    }

    /** The usual one with three seats, all of shop 0, and its three people in them; notice 0. */
    private static WorksCouncil seated() {
        WorksCouncil x = usual();
        x.votes(0, 10);
        x.elect(3);
        for (int i = 0; i < 3; i++) x.sit(i, i);
        x.set(0, 0);
        return x;
    }

    /** The usual one with a matter 0 of kind 3, shops 0 and 1, sum 100, on day 1, let by silence from day 1 on. */
    private static WorksCouncil letBySilence() {
        WorksCouncil x = usual();
        x.term(3, 1, 0);
        x.term(3, 2, 1);
        x.open(2, 3, 100, false);
        x.days(1);
        return x;
    }

    private static void newObject() {
        promise = "promise 1";
        WorksCouncil x = new WorksCouncil();
        for (int what = 0; what <= 16; what++) due("count(" + what + ")", x.count(what), 0);
        due("votes", x.votes(3, 0), 0);
        for (int what = 0; what < 8; what++) due("contract", x.contract(what, -1, 0), -1);
        due("goes", x.goes(0, 24, 0), -9);
        due("set 0", x.set(0, 3), 3);
        due("set 1", x.set(1, 30), 30);
        due("set 2", x.set(2, 14), 14);
        due("set 3", x.set(3, 3), 3);
        due("set 4", x.set(4, 3), 3);
        for (int i = 0; i < 4; i++) due("weight", x.weight(i, 1), 1);
        for (int i = 0; i < 3; i++) due("need", x.need(i, 1), 1);
    }

    private static void days() {
        promise = "promise 2";
        WorksCouncil x = new WorksCouncil();
        due("days(0)", x.days(0), -4);
        due("days(-1)", x.days(Integer.MIN_VALUE), -4);
        due("days(1)", x.days(1), 1);
        due("days(1000)", x.days(1000), -6);
        due("days(max)", x.days(Integer.MAX_VALUE), -6);
        due("days(999)", x.days(999), 1000);
        due("days(1)", x.days(1), -6);
        due("count(0)", x.count(0), 1000);
        due("count(14)", x.count(14), 2);
        due("count(16)", x.count(16), 3);
    }

    private static void feastsAndWorkdays() {
        promise = "promise 3";
        WorksCouncil x = new WorksCouncil();
        due("feast(0)", x.feast(0), 1);
        due("feast(1000)", x.feast(1000), 1);
        due("feast(1000)", x.feast(1000), 0);
        due("feast(-1)", x.feast(-1), -4);
        due("feast(1001)", x.feast(1001), -6);
        promise = "promise 4";
        due("workdays(0, 7)", x.workdays(0, 7), 5);
        due("workdays(4, 6)", x.workdays(4, 6), 0);
        due("workdays(4, 7)", x.workdays(4, 7), 1);
        due("workdays(6, 6)", x.workdays(6, 6), 0);
        due("workdays(9, 3)", x.workdays(9, 3), 0);
        due("workdays(990, 1000)", x.workdays(990, 1000), 6);
        due("workdays(991, 998)", x.workdays(991, 998), 5);
        x.days(10);
        due("feast(3)", x.feast(3), 1);
        due("feast(5)", x.feast(5), 1);
        due("feast(8)", x.feast(11), 1);
        due("the last workday of a week", x.workdays(7, 13), 3);
        due("workdays(0, 7)", x.workdays(0, 7), 4);
        due("workdays(3, 7)", x.workdays(3, 7), 2);
        due("workdays(2, 3)", x.workdays(2, 3), 0);
        due("workdays(-1, 1001)", x.workdays(-1, 1001), -4);
        due("workdays(1001, -1)", x.workdays(1001, -1), -4);
        due("workdays(0, 1001)", x.workdays(0, 1001), -6);
        due("workdays(1001, 0)", x.workdays(1001, 0), -6);
    }

    private static void people() {
        promise = "promise 5";
        WorksCouncil x = new WorksCouncil();
        due("least", x.person(0, -25000, -15000, 0, 0), 0);
        due("most", x.person(5, -5000, 0, 9, 100), 1);
        due("shop -1", x.person(-1, 0, 0, 0, 0), -1);
        due("shop 6", x.person(6, -10000, 0, 0, 0), -1);
        due("born", x.person(0, -25001, 1, 0, 0), -4);
        due("came", x.person(0, -10000, -15001, 0, 0), -4);
        due("children", x.person(0, -10000, 0, -1, 0), -4);
        due("hurt", x.person(0, -10000, 0, 0, -1), -4);
        due("born", x.person(0, -4999, 0, 0, 0), -6);
        due("came", x.person(0, -10000, 1, 0, 0), -6);
        due("children", x.person(0, -10000, 0, 10, 0), -6);
        due("hurt", x.person(0, -10000, 0, 0, 101), -6);
        x.days(2);
        due("came now", x.person(0, -10000, 2, 0, 0), 2);
        due("came behind now", x.person(0, -10000, 3, 0, 0), -6);
        for (int i = 3; i < 24; i++) due("person", x.person(2, -10000, 0, 0, 0), i);
        due("the 25th", x.person(2, -10000, 0, 0, 0), -6);
        due("the 25th, below", x.person(2, -30000, 0, 0, 0), -4);
        promise = "promise 6";
        due("leave(24)", x.leave(24), -1);
        due("leave(-1)", x.leave(-1), -1);
        due("leave(23)", x.leave(23), 1);
        due("leave(23)", x.leave(23), -3);
        due("count(1)", x.count(1), 23);
        due("one who left is counted", x.person(2, -10000, 0, 0, 0), -6);
    }

    private static void texts() {
        promise = "promise 7";
        WorksCouncil x = new WorksCouncil();
        due("feed(0)", x.feed(0, 0), -4);
        due("feed(9)", x.feed(9, 0), -6);
        due("feed(1)", x.feed(1, 'A'), 1);
        due("feed(8)", x.feed(8, -1L), 9);
        for (int i = 0; i < 6; i++) x.feed(8, 0);
        due("count(9)", x.count(9), 57);
        due("feed(4)", x.feed(4, 0), -6);
        due("feed(3)", x.feed(3, 0), 60);
        due("feed(1)", x.feed(1, 0), -6);
        due("feed(-1)", x.feed(-1, 0), -4);
        promise = "promise 8";
        due("act(-1)", x.act(-1), -4);
        due("act(1001)", x.act(1001), -6);
        due("refused, the text stays", x.count(9), 60);
        due("act(0)", x.act(0), -21);
        due("a fault, none stays", x.count(9), 0);
        due("a fault is not counted", x.count(14) + x.count(16), 3 + 4);
        due("act(0)", x.act(0), -20);
        x.days(3);
        feedAll(x, "H4:u=1");
        due("act(2)", x.act(2), -4);
        due("act(3)", x.act(3), 0);
        due("count(9)", x.count(9), 0);
        for (int i = 1; i < 24; i++) due("act(1000)", actOf(x, "A1:1>0", 1000), i);
        due("the 25th", actOf(x, "A1:1>0", 1000), -6);
        due("the 25th, below", x.act(0), -4);
        due("the text stays", x.count(9), 6);
        due("count(2)", x.count(2), 24);
    }

    private static void faults() {
        promise = "promise 8, faults";
        String[] whole = {"A0:n>0", "H4:0=0", "A1:n+w-s*m<c+u*9999", "B2:!!!!!n>0", "B2:(((((n>0)))))", "B2:!(!(!n>0))&!n>0",
            "C3:n>0|n>1&w=2|!(s<1|m>9)&u=1", "C3:!!!!!n>0&!!!!!n>0", "C3:((((n>0)&!n=1)))|!!!!!n<1", "A1:0000=0000"};
        for (String text : whole) due(text, faultOf(text), -1);
        Object[][] faults = {{"", 0}, {"I0:n>0", 0}, {"@", 0}, {"a0:n>0", 0}, {"A", 1}, {"A5:n>0", 1}, {"A/", 1}, {"A1", 2},
            {"A1;n>0", 2}, {"A1:", 3}, {"A1:x>0", 3}, {"A1:>0", 3}, {"A1:-1>0", 3}, {"A1:)", 3}, {"A1:n", 4}, {"A1:n&", 4},
            {"A1:nn>0", 4}, {"A1:5n>0", 4}, {"A1:n5>0", 4}, {"A1:n>", 5}, {"A1:n==0", 5}, {"A1:n>0>0", 6}, {"A1:n>0)", 6},
            {"A1:n>0&", 7}, {"A1:n>0|", 7}, {"A1:n>0&&n>0", 7}, {"A1:n+>0", 5}, {"A1:n+", 5}, {"A1:n+(n)>0", 5},
            {"A1:12345>0", 7}, {"A1:n>12345", 9}, {"A1:n>1234", -1}, {"A1:(n>0", 7}, {"A1:(n)", 5}, {"A1:(n>0))", 8},
            {"A1:(n>0)+1>0", 8}, {"A1:(n>0)n>0", 8}, {"A1:!", 4}, {"A1:!)", 4}, {"A1:!!!!!!n>0", 8}, {"A1:((((((n>0))))))", 8},
            {"A1:(!(!(!n>0))))", 8}, {"A1:(!(!(n>0)))", -1}, {"A1:!!!!!(n>0)", 8}, {"A1:n>0&!(!(!(n>0)))", 12},
            {"A1:n>0 ", 6}, {" A1:n>0", 0}, {"A1:n>\u00ff", 5}};
        for (Object[] fault : faults) due((String) fault[0], faultOf((String) fault[0]), (Integer) fault[1]);
        StringBuilder sixty = new StringBuilder("A1:n");
        while (sixty.length() < 58) sixty.append("+1");
        due("sixty bytes", faultOf(sixty + ">0"), -1);
        due("sixty bytes, no end", faultOf(sixty + "+1"), 60);
    }

    private static int holds(WorksCouncil x, String rule, int shops, int sum, boolean urgent) {
        int act = actOf(x, "A4:" + rule, 0);
        int kind = x.kind(0, shops, sum, urgent, 0);
        x.strike(act, 0);
        return kind == 4 ? 1 : 0;
    }

    private static void rules() {
        promise = "promise 10, rules";
        WorksCouncil x = seated();
        x.leave(2);
        x.strike(0, 0);
        due("n", holds(x, "n=2", 1, 0, false), 1);
        due("n of both", holds(x, "n=3", 3, 0, false), 1);
        due("n of another", holds(x, "n=0", 4, 0, false), 1);
        due("w", holds(x, "w=3", 4, 0, false), 1);
        due("s", holds(x, "s=6", 63, 0, false), 1);
        due("m", holds(x, "m=9999", 1, 9999, false), 1);
        due("c", holds(x, "c=3", 1, 0, false), 1);
        due("u", holds(x, "u=1", 1, 0, true), 1);
        due("not u", holds(x, "u=0", 1, 0, false), 1);
        due("from the left on", holds(x, "2+3*4=20", 1, 0, false), 1);
        due("from the left on", holds(x, "2-3*4+1<0-2", 1, 0, false), 1);
        due("goes round", holds(x, "9999*9999*9999<0-1", 1, 0, false), 1);
        due("& binds more than |", holds(x, "1=1|1=1&1=0", 1, 0, false), 1);
        due("( )", holds(x, "(1=1|1=1)&1=0", 1, 0, false), 0);
        due("! binds most", holds(x, "!1=0&1=0", 1, 0, false), 0);
        due("! of ( )", holds(x, "!(1=0&1=0)", 1, 0, false), 1);
        due("!!", holds(x, "!!1=0", 1, 0, false), 0);
        due("less", holds(x, "1<1", 1, 0, false), 0);
        due("more", holds(x, "1>1", 1, 0, false), 0);
        due("! in the second", holds(x, "1=0|!(1=0|!1=1)", 1, 0, false), 1);
        WorksCouncil y = new WorksCouncil();
        due("| in ( )", holds(y, "(1=1|1=0)", 1, 0, false), 1);
        due("| in ( )", holds(y, "(1=0|1=1)&1=1", 1, 0, false), 1);
        due("| in ( ), behind &", holds(y, "1=1&(1=0|1=0)", 1, 0, false), 0);
        due("( ) in ( )", holds(y, "((1=1&(1=0|1=1))&1=1)|1=0", 1, 0, false), 1);
        due("!!!", holds(y, "!!!1=0", 1, 0, false), 1);
        due("! of one alone", holds(y, "!1=0|1=1&1=0", 1, 0, false), 1);
        due("four digits", holds(y, "0012=12", 1, 0, false), 1);
    }

    private static void strikesAndKinds() {
        promise = "promise 9";
        WorksCouncil x = new WorksCouncil();
        actOf(x, "A1:1>0", 0);
        actOf(x, "A2:m>10", 0);
        actOf(x, "A3:m>20", 5);
        actOf(x, "B4:1>0", 0);
        x.days(2);
        due("strike(4, 2)", x.strike(4, 2), -1);
        due("strike(-1, 2)", x.strike(-1, 2), -1);
        due("strike(0, 1)", x.strike(0, 1), -4);
        due("strike(0, 1001)", x.strike(0, 1001), -6);
        due("strike(0, 4)", x.strike(0, 4), 1);
        due("strike(0, -5)", x.strike(0, -5), -3);
        promise = "promise 10";
        due("kind", x.kind(0, 1, 10, false, 0), 1);
        due("kind, the greatest of one day", x.kind(0, 1, 11, false, 0), 2);
        due("its act", x.kind(0, 1, 11, false, 1), 1);
        due("quarrel", x.kind(0, 1, 11, false, 2), 0);
        due("quarrel's other", x.kind(0, 1, 11, false, 3), 1);
        due("no quarrel", x.kind(0, 1, 10, false, 2), -9);
        due("no quarrel", x.kind(0, 1, 10, false, 3), -9);
        due("none yet", x.kind(0, 1, 21, false, 0), 2);
        due("of another what", x.kind(1, 1, 21, false, 0), 4);
        due("without", x.kind(7, 63, 9999, true, 0), 0);
        due("without", x.kind(7, 63, 9999, true, 1), -9);
        x.days(2);
        due("struck", x.kind(0, 1, 10, false, 1), -9);
        due("struck", x.kind(0, 1, 10, false, 0), 0);
        x.days(1);
        due("in force since now", x.kind(0, 1, 21, false, 0), 3);
        due("quarrel", x.kind(0, 1, 21, false, 2), 1);
        actOf(x, "A3:m>20", 5);
        actOf(x, "A0:m>20", 5);
        due("the latest day, the greatest number", x.kind(0, 1, 21, false, 1), 5);
        due("kind 0 by an act", x.kind(0, 1, 21, false, 0), 0);
        x.strike(1, 5);
        due("the first quarrels with the first other", x.kind(0, 1, 21, false, 2), 2);
        due("not with the same kind", x.kind(0, 1, 21, false, 3), 5);
        due("what 8", x.kind(8, 0, -1, false, 0), -2);
        due("what -1", x.kind(-1, 1, 0, false, 0), -2);
        due("what 4", x.kind(0, 1, 0, false, 4), -2);
        due("what -1", x.kind(0, 1, 0, false, -1), -2);
        due("shops 0", x.kind(0, 0, 10000, false, 0), -4);
        due("sum -1", x.kind(0, 64, -1, false, 0), -4);
        due("shops 64", x.kind(0, 64, 0, false, 0), -6);
        due("sum 10000", x.kind(0, 1, 10000, false, 0), -6);
    }

    private static void termsAndMatters() {
        promise = "promise 11";
        WorksCouncil x = usual();
        for (int kind = 0; kind < 5; kind++) {
            due("needs", x.term(kind, 0, 255), 0);
            due("span", x.term(kind, 1, 30), 5);
            due("silence", x.term(kind, 2, 1), kind == 1 || kind == 2 ? 1 : 0);
            due("needs", x.term(kind, 0, 0), 255);
            due("span", x.term(kind, 1, 5), 30);
        }
        due("kind 5", x.term(5, 0, -1), -2);
        due("kind -1", x.term(-1, 0, 0), -2);
        due("what 3", x.term(0, 3, 0), -2);
        due("what -1", x.term(0, -1, 0), -2);
        due("below", x.term(0, 0, -1), -4);
        due("needs 256", x.term(0, 0, 256), -6);
        due("span 31", x.term(0, 1, 31), -6);
        due("silence 2", x.term(0, 2, 2), -6);
        promise = "promise 12";
        due("open", x.open(3, 63, 9999, true), 0);
        due("open", x.open(7, 1, 0, false), 1);
        due("what 8", x.open(8, 0, 0, false), -2);
        due("what -1", x.open(-1, 1, 0, false), -2);
        due("shops 0", x.open(0, 0, 10000, false), -4);
        due("sum -1", x.open(0, 1, -1, false), -4);
        due("shops 64", x.open(0, 64, 0, false), -6);
        due("sum 10000", x.open(0, 1, 10000, false), -6);
        x.term(3, 0, 1);
        due("needs as told then", x.open(2, 1, 0, false), 2);
        x.term(3, 0, 0);
        due("state", x.state(2, 0, 0), 2);
        x.strike(2, 0);
        due("kind as it was then", x.matterOf(2, 0), 3);
        due("open", x.open(2, 1, 0, false), 3);
        due("kind as now", x.matterOf(3, 0), 0);
        for (int i = 4; i < 40; i++) due("open", x.open(0, 1, 0, false), i);
        due("the 41st", x.open(0, 1, 0, false), -6);
        due("the 41st, below", x.open(0, 1, -1, false), -4);
        due("count(3)", x.count(3), 40);
    }

    private static void papers() {
        promise = "promise 13";
        WorksCouncil x = usual();
        x.term(3, 0, 128 + 1);
        x.open(2, 1, 0, false);
        due("no matter", x.paper(1, 0, true), -1);
        due("no matter", x.paper(-1, 0, true), -1);
        due("no paper", x.paper(0, 8, true), -1);
        due("no paper", x.paper(0, -1, false), -1);
        due("not given", x.paper(0, 0, false), -3);
        due("given", x.paper(0, 0, true), 1);
        due("another is not given", x.paper(0, 7, false), -3);
        due("given", x.paper(0, 7, true), 2);
        x.days(1);
        due("given again", x.paper(0, 7, true), 3);
        due("whole since", x.matterOf(0, 2), 0);
        due("not whole", x.paper(0, 7, false), 4);
        due("undoes both", x.matterOf(0, 2), -9);
        due("none counts", x.paper(0, 7, false), -3);
        due("given", x.paper(0, 7, true), 5);
        due("whole since", x.matterOf(0, 2), 1);
        for (int i = 6; i <= 30; i++) due("not in needs", x.paper(0, 3, true), i);
        due("the 31st", x.paper(0, 3, true), -6);
        due("none counts, ahead of room", x.paper(0, 2, false), -3);
        promise = "promise 14";
        due("full", x.withdraw(0), -6);
        x.open(4, 1, 0, false);
        due("withdraw", x.withdraw(1), 1);
        due("withdraw", x.withdraw(1), -3);
        due("no matter", x.withdraw(2), -1);
        due("no matter", x.withdraw(-1), -1);
        due("state", x.state(1, 1, 1), 1);
        due("paper of one withdrawn", x.paper(1, 0, true), -3);
        due("a telling", x.matterOf(1, 4), 1);
    }

    private static void states() {
        promise = "promise 15";
        WorksCouncil x = usual();
        x.days(1);
        x.term(1, 0, 1);
        x.term(2, 1, 0);
        for (int what = 0; what < 5; what++) x.open(what, 1, 0, false);
        due("told, not whole", x.state(0, 1, 1), 2);
        due("asked, running", x.state(1, 1, 1), 3);
        due("joint, running", x.state(2, 1, 1), 3);
        due("urgent, running", x.state(3, 1, 1), 3);
        due("free", x.state(4, 1, 1), 0);
        x.paper(0, 0, true);
        due("told, whole", x.state(0, 1, 1), 6);
        due("no matter", x.state(5, -1, 0), -1);
        due("no matter", x.state(-1, 1, 1), -1);
        due("below", x.state(0, -1, 2), -4);
        due("below", x.state(0, 1, -1), -4);
        due("ahead of its opening", x.state(0, 0, 1), -3);
        due("behind k", x.state(0, 2, 1), -3);
        due("k behind now", x.state(0, 1, 2), -3);
        x.days(1);
        due("silence of asked", x.state(1, 2, 2), 6);
        due("not on day 1", x.state(1, 1, 2), 3);
        x.days(6);
        due("day 8: five workdays", x.state(2, 8, 8), 3);
        x.days(1);
        due("day 9: six workdays", x.state(2, 9, 9), 7);
        due("urgent", x.state(3, 9, 9), 7);
        due("told", x.state(0, 9, 9), 6);
        x.feast(3);
        due("a feast gone by", x.state(2, 9, 9), 3);
        x.withdraw(4);
        due("withdrawn", x.state(4, 9, 9), 1);
        due("the day ahead", x.state(4, 8, 9), 0);
        x.paper(0, 0, false);
        due("not whole", x.state(0, 9, 9), 2);
        due("not whole backward", x.state(0, 1, 9), 2);
        due("as known then", x.state(0, 1, 8), 6);
        x.paper(0, 0, true);
        due("whole again", x.state(0, 9, 9), 6);
        due("not backward", x.state(0, 8, 9), 2);
        promise = "promise 16";
        due("kind", x.matterOf(3, 0), 4);
        due("opened", x.matterOf(3, 1), 1);
        due("since", x.matterOf(3, 2), 1);
        due("since of a withdrawn one", x.matterOf(4, 2), 1);
        due("since of new papers", x.matterOf(0, 2), 9);
        due("lets", x.matterOf(0, 3), 1);
        due("asked, passed", x.matterOf(1, 3), 1);
        due("joint, running", x.matterOf(2, 3), 0);
        due("urgent, running by the feast", x.matterOf(3, 3), 1);
        due("free, withdrawn", x.matterOf(4, 3), 0);
        due("tellings", x.matterOf(0, 4), 3);
        due("its act", x.matterOf(2, 5), 2);
        lettings();
        promise = "promise 16";
        due("no act", x.matterOf(4, 5), -9);
        due("no matter", x.matterOf(5, 9), -1);
        due("what", x.matterOf(0, 6), -2);
        due("what", x.matterOf(0, -1), -2);
    }

    /** Whether each state of each kind lets. */
    private static void lettings() {
        promise = "promise 16, lets";
        WorksCouncil x = seated();
        for (int kind = 1; kind < 5; kind++) x.term(kind, 0, 1);
        for (int what = 0; what < 5; what++) x.open(what, 1, 0, false);
        int[] notWhole = {0, 0, 0, 1, 1};
        for (int m = 0; m < 5; m++) due("not whole, or free", x.matterOf(m, 3), notWhole[m]);
        for (int m = 0; m < 4; m++) x.paper(m, 0, true);
        int[] whole = {1, 0, 0, 1, 1};
        for (int m = 0; m < 5; m++) due("whole", x.matterOf(m, 3), whole[m]);
        x.session(0, 1);
        for (int m = 1; m < 4; m++) x.vote(m, 1, 0);
        for (int m = 1; m < 4; m++) due("answered yes", x.matterOf(m, 3), 1);
        x.voids(0);
    }

    /** The same for answers that say no, rulings and silence. */
    private static void lettingsOfNo() {
        promise = "promise 16, lets";
        WorksCouncil x = seated();
        for (int what = 1; what < 4; what++) x.open(what, 1, 0, false);
        x.session(0, 7);
        for (int m = 0; m < 3; m++) x.vote(m, 0, 7);
        for (int m = 0; m < 3; m++) due("answered no", x.matterOf(m, 3), m == 0 ? 1 : 0);
        for (int m = 1; m < 3; m++) x.board(m, 2, 2, false);
        for (int m = 1; m < 3; m++) due("ruled yes", x.matterOf(m, 3), 1);
        for (int m = 1; m < 3; m++) x.court(m);
        for (int m = 1; m < 3; m++) x.board(m, 0, 0, false);
        for (int m = 1; m < 3; m++) due("ruled no", x.matterOf(m, 3), 0);
        for (int silence = 0; silence < 2; silence++) {
            for (int kind = 2; kind < 5; kind++) x.term(kind, 2, silence);
            for (int what = 1; what < 4; what++) x.open(what, 1, 0, false);
        }
        x.days(20);
        for (int m = 3; m < 6; m++) due("refused by silence", x.matterOf(m, 3), 0);
        for (int m = 6; m < 9; m++) due("passed by silence", x.matterOf(m, 3), 1);
        for (int m = 6; m < 9; m++) x.withdraw(m);
        for (int m = 6; m < 9; m++) due("withdrawn", x.matterOf(m, 3), 0);
    }

    private static void seats() {
        promise = "promise 17";
        WorksCouncil x = usual();
        due("votes", x.votes(0, 999), 0);
        due("votes", x.votes(0, 12), 999);
        due("no shop", x.votes(6, -1), -1);
        due("no shop", x.votes(-1, 0), -1);
        due("below", x.votes(1, -1), -4);
        due("above", x.votes(1, 1000), -6);
        promise = "promise 18";
        due("elect(0)", x.elect(0), -4);
        due("elect(10)", x.elect(10), -6);
        x.votes(0, 0);
        due("without votes", x.elect(9), 0);
        x.votes(1, 6);
        x.votes(2, 4);
        x.votes(5, 3);
        due("elect(7)", x.elect(7), 7);
        int[] shops = {1, 2, 1, 5, 1, 2, 1};
        for (int i = 0; i < 7; i++) due("seat(" + i + ", 0)", x.seat(i, 0), shops[i]);
        due("count(4)", x.count(4), 7);
        due("elect(9)", x.elect(9), 9);
        x.votes(1, 0);
        x.votes(2, 0);
        x.votes(5, 0);
        due("none any more", x.elect(1), 0);
        due("count(4)", x.count(4), 0);
        promise = "promise 19";
        due("no seat", x.seat(0, 5), -1);
        x.votes(0, 2);
        x.votes(1, 1);
        x.elect(3);
        due("nobody", x.seat(2, 1), -9);
        due("no seat", x.seat(3, 0), -1);
        due("no seat", x.seat(-1, 0), -1);
        due("what", x.seat(0, 2), -2);
        due("what", x.seat(0, -1), -2);
        promise = "promise 20";
        due("sit", x.sit(0, 0), 1);
        due("again", x.sit(0, 0), 1);
        due("another one", x.sit(0, 1), 1);
        due("member", x.seat(0, 1), 1);
        due("in another seat", x.sit(1, 1), -3);
        due("of another shop", x.sit(1, 3), -3);
        due("sit", x.sit(2, 3), 1);
        due("no seat", x.sit(3, 0), -1);
        due("no person", x.sit(0, 4), -1);
        due("no person", x.sit(0, -1), -1);
        x.leave(2);
        due("not here", x.sit(1, 2), -3);
        x.leave(1);
        due("told on, if left", x.seat(0, 1), 1);
        x.elect(3);
        due("nobody sits then", x.seat(0, 1), -9);
        for (int i = 0; i < 3; i++) due("elected anew", x.seat(i, 0), i == 2 ? 1 : 0);
    }

    private static void sessions() {
        promise = "promise 21";
        WorksCouncil x = seated();
        x.set(0, 3);
        x.days(4);
        due("below", x.session(-1, 99), -4);
        due("below", x.session(9, -1), -4);
        due("behind now", x.session(5, 7), -3);
        due("no such seat", x.session(1, 8), -3);
        due("no such seat", x.session(1, 1 << 30), -3);
        due("in time, all", x.session(1, 7), 0);
        due("too late", x.session(2, 7), 1);
        due("too few", x.session(0, 4), 2);
        due("two of three", x.session(0, 6), 3);
        due("none present", x.session(0, 0), 4);
        x.leave(2);
        due("not here", x.session(1, 4), -3);
        due("the others", x.session(1, 3), 5);
        promise = "promise 23";
        int[] right = {1, 0, 0, 1, 0, 1};
        int[] present = {7, 7, 4, 6, 0, 3};
        for (int i = 0; i < 6; i++) {
            due("day", x.sessionOf(i, 0), 4);
            due("present", x.sessionOf(i, 1), present[i]);
            due("right", x.sessionOf(i, 2), right[i]);
            due("void", x.sessionOf(i, 3), 0);
        }
        x.set(0, 0);
        x.elect(9);
        due("right as it was told", x.sessionOf(1, 2), 0);
        due("right as it was told", x.sessionOf(0, 2), 1);
        due("nobody sits", x.session(1, 1), -3);
        due("no session", x.sessionOf(6, 9), -1);
        due("no session", x.sessionOf(-1, 0), -1);
        due("what", x.sessionOf(0, 4), -2);
        due("what", x.sessionOf(0, -1), -2);
        for (int i = 6; i < 30; i++) due("session", x.session(1, 0), i);
        due("the 31st", x.session(1, 0), -6);
        due("count(16)", x.count(16), 1);
        due("the 31st, wrong", x.session(5, 0), -3);
        due("count(5)", x.count(5), 30);
        promise = "promise 21";
        WorksCouncil z = usual();
        z.set(0, 0);
        z.votes(0, 10);
        z.elect(4);
        for (int i = 0; i < 3; i++) z.sit(i, i);
        z.session(0, 3);
        z.session(0, 7);
        due("half of four is not more", z.sessionOf(0, 2), 0);
        due("three of four", z.sessionOf(1, 2), 1);
        WorksCouncil y = usual();
        y.days(9);
        y.session(0, 0);
        due("no seats at all are not more than half", y.sessionOf(0, 2), 0);
    }

    private static void votesOnMatters() {
        promise = "promise 22";
        WorksCouncil x = seated();
        for (int what = 0; what < 5; what++) x.open(what, 1, 0, false);
        due("no session", x.vote(1, 0, 0), -3);
        x.session(0, 7);
        due("no matter", x.vote(5, 0, 0), -1);
        due("no matter", x.vote(-1, 0, 0), -1);
        due("kind 1", x.vote(0, 7, 0), -3);
        due("kind 0", x.vote(4, 7, 0), -3);
        due("not present", x.vote(1, 8, 0), -3);
        due("not present", x.vote(1, 0, -8), -3);
        due("in common", x.vote(1, 3, 2), -3);
        due("two of three", x.vote(1, 3, 4), 1);
        due("answered", x.vote(1, 3, 4), -3);
        due("one of three, none against", x.vote(2, 1, 0), 0);
        due("state", x.state(1, 0, 0), 4);
        due("state", x.state(2, 0, 0), 5);
        x.session(0, 3);
        due("the latest session's present", x.vote(3, 4, 0), -3);
        due("half is not more", x.vote(3, 1, 0), 0);
        x.days(1);
        x.open(1, 1, 0, false);
        due("not on its day", x.vote(5, 1, 0), -3);
        x.term(2, 0, 1);
        x.open(1, 1, 0, false);
        due("state not whole", x.state(6, 1, 1), 2);
        x.session(1, 1);
        due("may be answered", x.vote(6, 1, 0), 1);
        x.withdraw(5);
        due("withdrawn", x.vote(5, 1, 0), -3);
        x.open(2, 1, 0, false);
        for (int i = 0; i < 30; i++) x.paper(7, 0, true);
        due("full", x.vote(7, 1, 0), -6);
        due("full, sets", x.vote(7, 2, 0), -3);
        x.open(1, 1, 0, false);
        x.session(1, 0);
        due("nobody present", x.vote(8, 0, 0), 0);
    }

    private static void voidSessions() {
        promise = "promise 24";
        WorksCouncil x = seated();
        x.open(1, 1, 0, false);
        x.open(2, 1, 0, false);
        x.session(0, 7);
        due("right", x.voids(0), -3);
        x.session(0, 1);
        x.vote(0, 1, 0);
        x.vote(1, 0, 1);
        due("no session", x.voids(2), -1);
        due("no session", x.voids(-1), -1);
        x.days(2);
        due("state", x.state(0, 2, 2), 4);
        due("voids", x.voids(1), 2);
        due("again", x.voids(1), -3);
        due("told void", x.sessionOf(1, 3), 1);
        due("changes backward", x.state(0, 0, 2), 3);
        due("as known then", x.state(0, 0, 1), 4);
        due("now", x.state(0, 2, 2), 3);
        x.session(2, 1);
        due("void at once", x.voids(2), 0);
        due("a vote in a void one", x.vote(0, 1, 0), 1);
        due("does not count", x.state(0, 2, 2), 3);
        due("may vote again", x.vote(0, 0, 1), 0);
        due("tellings", x.matterOf(0, 4), 3);
        x.session(2, 7);
        x.vote(0, 0, 7);
        due("the last that counts", x.state(0, 2, 2), 5);
        due("refused ones", x.count(13), 2);
    }

    private static void settings() {
        promise = "promise 25";
        WorksCouncil x = new WorksCouncil();
        int[] most = {20, 200, 1000, 9, 4};
        int[] least = {0, 0, 0, 3, 0};
        int[] first = {3, 30, 14, 3, 3};
        for (int what = 0; what < 5; what++) {
            due("most", x.set(what, most[what]), first[what]);
            due("least", x.set(what, least[what]), most[what]);
            due("below", x.set(what, least[what] - 1), -4);
            due("above", x.set(what, most[what] + 1), -6);
            due("as it was", x.set(what, least[what]), least[what]);
        }
        due("what", x.set(5, -1), -2);
        due("what", x.set(-1, 0), -2);
    }

    private static void agreements() {
        promise = "promise 26";
        WorksCouncil x = letBySilence();
        x.open(2, 1, 0, false);
        x.open(1, 1, 0, false);
        due("no matter", x.agree(3, 0, 1, 1), -1);
        due("no matter", x.agree(-1, 0, 1, 1), -1);
        due("running", x.agree(1, -1, 1, 1), -3);
        due("kind 2", x.agree(2, 0, 1, 1), -3);
        due("value", x.agree(0, -1, 1, 1001), -4);
        due("from ahead of now", x.agree(0, 0, 0, 1), -4);
        due("to ahead of from", x.agree(0, 0, 5, 4), -4);
        due("to -2", x.agree(0, 0, 1, -2), -4);
        due("value", x.agree(0, 10000, 1, 1), -6);
        due("from", x.agree(0, 0, 1001, -1), -6);
        due("to", x.agree(0, 0, 1, 1001), -6);
        due("agree", x.agree(0, 9999, 1, 1), 0);
        due("it has one", x.agree(0, 9999, 1, 1), -3);
        promise = "promise 28";
        due("matter", x.agreementOf(0, 0), 0);
        due("value", x.agreementOf(0, 1), 9999);
        due("from", x.agreementOf(0, 2), 1);
        due("end", x.agreementOf(0, 3), 1);
        due("holds", x.agreementOf(0, 4), 1);
        due("no agreement", x.agreementOf(1, 9), -1);
        due("no agreement", x.agreementOf(-1, 0), -1);
        due("what", x.agreementOf(0, 5), -2);
        due("what", x.agreementOf(0, -1), -2);
        x.days(1);
        x.withdraw(0);
        due("withdrawn behind it", x.agreementOf(0, 4), 1);
        due("agree", x.agree(1, 1, 2, -1), 1);
        due("no end", x.agreementOf(1, 3), 1000000);
        due("count(6)", x.count(6), 2);
        x.withdraw(1);
        due("withdrawn on its day", x.agreementOf(1, 4), 0);
        due("count(6)", x.count(6), 1);
        promise = "promise 27";
        due("no agreement", x.cancel(2), -1);
        due("no agreement", x.cancel(-1), -1);
        due("not sooner", x.cancel(0), 1);
        due("again", x.cancel(0), -3);
        x.set(1, 5);
        due("cancel", x.cancel(1), 7);
        due("end", x.agreementOf(1, 3), 7);
        due("again", x.cancel(1), -3);
        promise = "promise 26";
        WorksCouncil y = usual();
        y.term(3, 1, 0);
        y.term(3, 2, 1);
        for (int i = 0; i < 31; i++) y.open(2, 1, 0, false);
        y.days(1);
        for (int i = 0; i < 30; i++) due("agree", y.agree(i, 0, 1, -1), i);
        due("the 31st", y.agree(30, 0, 1, -1), -6);
        due("the 31st, below", y.agree(30, 0, 0, -1), -4);
    }

    private static void agreementsFall() {
        promise = "promise 28, backward";
        WorksCouncil x = seated();
        x.open(2, 1, 0, false);
        x.session(0, 1);
        x.vote(0, 1, 0);
        due("by an answer", x.agree(0, 7, 0, -1), 0);
        due("holds", x.agreementOf(0, 4), 1);
        x.days(3);
        due("worth", x.worth(0, 2, 0, 0), 7);
        x.voids(0);
        due("its session was void", x.agreementOf(0, 4), 0);
        due("worth", x.worth(0, 2, 0, 0), -9);
        due("one each ever", x.agree(0, 7, 3, -1), -3);
        x.days(6);
        due("refused by silence", x.state(0, 9, 9), 7);
        x.open(2, 1, 0, false);
        x.session(9, 7);
        x.vote(1, 0, 7);
        x.board(1, 2, 2, true);
        due("by a ruling", x.agree(1, 8, 9, -1), 1);
        due("holds", x.agreementOf(1, 4), 1);
        x.days(1);
        x.court(1);
        due("its ruling fell", x.agreementOf(1, 4), 0);
        due("count(6)", x.count(6), 0);
    }

    private static void contracts() {
        promise = "promise 29";
        WorksCouncil x = new WorksCouncil();
        due("contract", x.contract(0, 0, 0), -1);
        due("contract", x.contract(0, 9999, 2), 0);
        due("another", x.contract(7, 5, 1), -1);
        due("none any more", x.contract(0, -1, 2), 9999);
        due("none", x.contract(0, -1, 0), -1);
        due("what 8", x.contract(8, -2, 0), 1000000002L);
        due("what -1", x.contract(-1, 0, 0), 1000000002L);
        due("let 3", x.contract(0, -1, 3), 1000000002L);
        due("let -1", x.contract(0, -1, -1), 1000000002L);
        due("below", x.contract(0, -2, 0), 1000000004L);
        due("above", x.contract(0, 10000, 0), 1000000006L);
        due("count(12)", x.count(12), 4);
        promise = "promise 30";
        due("after", x.after(0, false), 0);
        due("after", x.after(0, true), 1);
        due("after", x.after(0, true), 0);
        due("after", x.after(7, true), 1);
        due("after", x.after(0, false), 1);
        due("what", x.after(8, true), -2);
        due("what", x.after(-1, true), -2);
    }

    private static void worths() {
        promise = "promise 31";
        WorksCouncil x = letBySilence();
        for (int i = 0; i < 3; i++) x.open(2, 1, 0, false);
        x.days(1);
        due("without", x.worth(0, 2, 2, 0), -9);
        x.agree(0, 50, 3, 10);
        x.agree(1, 80, 5, 8);
        x.agree(2, 70, 5, 6);
        x.agree(3, 60, 20, 20);
        due("ahead", x.worth(0, 2, 2, 0), -9);
        due("ahead", x.worth(0, 2, 2, 1), -9);
        due("both ends", x.worth(0, 2, 3, 0), 50);
        due("latest, greatest", x.worth(0, 2, 5, 0), 70);
        due("its number", x.worth(0, 2, 6, 1), 2);
        due("one ended", x.worth(0, 2, 7, 0), 80);
        due("two ended", x.worth(0, 2, 9, 0), 50);
        due("both ends", x.worth(0, 2, 10, 0), 50);
        due("another shop", x.worth(1, 2, 5, 0), 50);
        due("no shop of it", x.worth(2, 2, 5, 0), -9);
        due("another what", x.worth(0, 1, 5, 0), -9);
        due("behind all", x.worth(0, 2, 11, 0), -9);
        x.after(2, true);
        due("after", x.worth(0, 2, 11, 0), 50);
        due("after", x.worth(0, 2, 20, 0), 60);
        due("after", x.worth(0, 2, 21, 1), 3);
        due("not ahead", x.worth(0, 2, 2, 0), -9);
        due("of another shop", x.worth(1, 2, 1000, 0), 50);
        x.contract(2, 65, 0);
        due("let 0", x.worth(0, 2, 5, 0), 65);
        due("let 0, a", x.worth(0, 2, 5, 1), 2);
        x.contract(2, 65, 1);
        due("let 1", x.worth(0, 2, 5, 0), 70);
        due("let 1", x.worth(0, 2, 3, 0), 65);
        due("let 1, none", x.worth(0, 2, 2, 0), 65);
        x.contract(2, 65, 2);
        due("let 2", x.worth(0, 2, 3, 0), 50);
        due("let 2, none", x.worth(0, 2, 2, 0), 65);
        x.contract(2, -1, 0);
        x.set(1, 0);
        x.cancel(3);
        due("never in force", x.worth(0, 2, 21, 0), 50);
        due("another one of the same end, none behind it", x.worth(0, 2, 21, 1), 0);
        x.cancel(0);
        due("ended ahead of its first day", x.worth(0, 2, 4, 0), -9);
        due("the other's end", x.worth(0, 2, 21, 0), 80);
        due("no shop", x.worth(6, 8, 0, 0), -1);
        due("no shop", x.worth(-1, 0, 0, 0), -1);
        due("what 8", x.worth(0, 8, -1, 0), -2);
        due("what 2", x.worth(0, 0, 0, 2), -2);
        due("what -1", x.worth(0, 0, 0, -1), -2);
        due("day", x.worth(0, 0, -1, 0), -4);
        due("day", x.worth(0, 0, 1001, 0), -6);
        due("last day", x.worth(0, 2, 1000, 0), 80);
        WorksCouncil y = letBySilence();
        for (int i = 0; i < 2; i++) y.open(2, 1, 0, false);
        y.days(1);
        y.after(2, true);
        y.agree(0, 30, 2, 9);
        y.agree(1, 20, 4, 9);
        y.agree(2, 10, 3, 8);
        due("ended last, of several the greatest number", y.worth(0, 2, 10, 1), 1);
    }

    private static void boardsAndCourts() {
        promise = "promise 32";
        WorksCouncil x = seated();
        for (int what = 1; what < 4; what++) x.open(what, 1, 0, false);
        x.session(0, 7);
        due("no matter", x.board(3, -1, 0, true), -1);
        due("no matter", x.board(-1, 0, 0, true), -1);
        due("running", x.board(1, -1, 0, true), -3);
        x.vote(0, 0, 7);
        x.vote(1, 0, 7);
        x.vote(2, 0, 7);
        due("kind 2", x.board(0, 2, 2, true), -3);
        due("firm", x.board(1, -1, 3, true), -4);
        due("council", x.board(1, 0, -1, true), -4);
        due("firm", x.board(1, 3, 0, true), -6);
        due("council", x.board(1, 0, 3, true), -6);
        due("three", x.board(1, 1, 1, true), 1);
        due("ruled yes", x.state(1, 0, 0), 8);
        due("ruled", x.board(1, 1, 1, true), -3);
        due("two with the chair", x.board(2, 1, 0, true), 0);
        due("ruled no", x.state(2, 0, 0), 9);
        WorksCouncil z = usual();
        z.open(2, 1, 0, false);
        z.days(20);
        due("refused by silence, two", z.board(0, 2, 0, false), 0);
        due("the first telling", z.state(0, 20, 20), 9);
        due("court", z.court(0), 1);
        due("council and chair", z.board(0, 0, 2, true), 1);
        promise = "promise 33";
        due("no matter", x.court(3), -1);
        due("no matter", x.court(-1), -1);
        due("no ruling", x.court(0), -3);
        x.days(1);
        due("court", x.court(1), 1);
        due("again", x.court(1), -3);
        due("as it was", x.state(1, 1, 1), 5);
        due("backward", x.state(1, 0, 1), 5);
        due("as known then", x.state(1, 0, 0), 8);
        due("three without the chair", x.board(1, 2, 1, false), 1);
        due("the last that counts", x.state(1, 1, 1), 8);
        x.withdraw(1);
        due("a ruling of a withdrawn one", x.court(1), 1);
        x.open(2, 1, 0, false);
        for (int i = 0; i < 28; i++) x.paper(3, 0, true);
        x.session(1, 7);
        x.vote(3, 0, 0);
        due("the 30th", x.board(3, 0, 0, false), 0);
        due("full", x.court(3), -6);
        x.open(2, 1, 0, false);
        for (int i = 0; i < 29; i++) x.paper(4, 0, true);
        x.vote(4, 0, 0);
        promise = "promise 32";
        due("full", x.board(4, 0, 0, false), -6);
        due("full, below", x.board(4, 0, -1, false), -4);
    }

    private static void deeds() {
        promise = "promise 34";
        WorksCouncil x = letBySilence();
        due("within", x.deed(0, 2, 1, 100), 0);
        due("a shop more", x.deed(0, 2, 7, 0), 1);
        due("sum above", x.deed(0, 2, 3, 101), 2);
        due("on none", x.deed(-1, 2, 1, 0), 3);
        due("on none, free", x.deed(-1, 7, 1, 0), 4);
        due("no matter", x.deed(1, 8, 1, 0), -1);
        due("no matter", x.deed(-2, 2, 1, 0), -1);
        due("what 8", x.deed(0, 8, 0, 0), -2);
        due("what -1", x.deed(-1, -1, 1, 0), -2);
        due("another what", x.deed(0, 1, 0, 0), -3);
        due("shops 0", x.deed(0, 2, 0, 10000), -4);
        due("sum -1", x.deed(0, 2, 64, -1), -4);
        due("shops 64", x.deed(0, 2, 64, 0), -6);
        due("sum 10000", x.deed(0, 2, 1, 10000), -6);
        promise = "promise 35";
        int[] since = {-9, 1, 1, 1, -9};
        for (int d = 0; d < 5; d++) {
            due("matter", x.deedOf(d, 0), d < 3 ? 0 : -1);
            due("day", x.deedOf(d, 1), 1);
            due("void since of " + d, x.deedOf(d, 2), since[d]);
        }
        due("no deed", x.deedOf(5, 9), 1000000001L);
        due("no deed", x.deedOf(-1, 0), 1000000001L);
        due("what", x.deedOf(0, 5), 1000000002L);
        due("what", x.deedOf(0, -1), 1000000002L);
        due("count(8)", x.count(8), 3);
        x.days(1);
        x.withdraw(0);
        due("kind 3: its day alone", x.deedOf(0, 2), -9);
        due("withdrawn", x.deedOf(x.deed(0, 2, 1, 0), 2), 2);
        x.strike(2, 2);
        due("kind as it was done", x.deedOf(3, 2), 1);
        due("free now", x.deedOf(x.deed(-1, 2, 1, 0), 2), -9);
        actOf(x, "G4:u=1", 2);
        due("urgent is not told", x.deedOf(x.deed(-1, 6, 1, 0), 2), -9);
        due("kind 1 is enough", x.deedOf(x.deed(-1, 0, 1, 0), 2), 2);
        promise = "promise 36";
        due("no deed", x.hang(9, 0), -1);
        due("no deed", x.hang(-1, 1), -1);
        due("below", x.hang(0, 0), -4);
        due("above", x.hang(0, 10000), -6);
        due("hang", x.hang(1, 9999), 1);
        due("hang", x.hang(1, 1), 2);
        due("hang", x.hang(0, 1), 1);
        due("hung", x.deedOf(1, 3), 10000);
        due("lost", x.deedOf(1, 4), 10000);
        due("not lost", x.deedOf(0, 4), 0);
        for (int i = 3; i < 100; i++) x.hang(4, 2);
        due("the 101st", x.hang(0, 1), -6);
        due("hung", x.deedOf(4, 3), 194);
        promise = "promise 34";
        for (int i = x.count(7); i < 60; i++) due("deed", x.deed(-1, 7, 1, 0), i);
        due("the 61st", x.deed(-1, 7, 1, 0), -6);
        due("the 61st, below", x.deed(-1, 7, 1, -1), -4);
        due("count(7)", x.count(7), 60);
    }

    private static void urgentDeeds() {
        promise = "promise 35, urgent";
        WorksCouncil x = seated();
        x.term(4, 1, 1);
        x.open(3, 1, 10, false);
        x.deed(0, 3, 1, 10);
        x.hang(0, 1);
        x.days(1);
        x.hang(0, 2);
        due("running", x.deedOf(0, 2), -9);
        due("not lost", x.deedOf(0, 4), 0);
        x.days(1);
        x.hang(0, 4);
        due("refused by silence", x.deedOf(0, 2), 2);
        x.days(1);
        x.hang(0, 8);
        due("lost", x.deedOf(0, 4), 12);
        due("hung, of day 0 too", x.deedOf(0, 3), 15);
        x.feast(1);
        due("day 1 is no workday any more", x.workdays(0, 4), 3);
        due("a feast: a day later", x.deedOf(0, 2), 3);
        due("lost", x.deedOf(0, 4), 8);
        x.feast(2);
        x.feast(3);
        due("not yet", x.deedOf(0, 2), -9);
        x.session(3, 7);
        x.vote(0, 7, 0);
        x.days(20);
        due("answered yes", x.deedOf(0, 2), -9);
        x.withdraw(0);
        due("withdrawn", x.deedOf(0, 2), 23);
        WorksCouncil v = usual();
        v.term(4, 1, 0);
        v.open(3, 1, 10, false);
        v.deed(0, 3, 1, 10);
        v.days(3);
        due("span 0", v.deedOf(0, 2), 1);
        WorksCouncil y = seated();
        y.open(3, 1, 10, false);
        y.deed(0, 3, 1, 10);
        y.days(1);
        y.session(1, 1);
        y.vote(0, 0, 1);
        due("answered no", y.deedOf(0, 2), 1);
        y.days(1);
        y.voids(0);
        due("its session was void", y.deedOf(0, 2), -9);
        y.days(30);
        due("refused by silence on day 8", y.deedOf(0, 2), 8);
        y.board(0, 2, 2, true);
        due("ruled too late", y.deedOf(0, 2), 8);
        due("a deed now", y.deedOf(y.deed(0, 3, 1, 0), 2), -9);
        y.days(1);
        y.court(0);
        due("fallen", y.deedOf(1, 2), 32);
        WorksCouncil z = usual();
        z.days(990);
        z.open(3, 1, 0, false);
        z.deed(0, 3, 1, 0);
        z.days(10);
        due("the last workday of all", z.deedOf(0, 2), 998);
        z.feast(994);
        due("no workday is left", z.deedOf(0, 2), -9);
    }

    private static WorksCouncil team() {
        WorksCouncil x = new WorksCouncil();
        for (int i = 0; i < 5; i++) x.person(0, -9000, 0, 0, 0);
        return x;
    }

    private static void checkTable(WorksCouncil x, int rules, String table) {
        for (int day = 0; day < 4; day++) {
            for (int p = 0; p < 4; p++) {
                int shift = "elnx".indexOf(table.charAt(5 * day + p));
                due("shift of " + p + " on " + day + " by " + rules, x.shiftOf(0, rules, p, day), shift);
            }
        }
    }

    private static void shifts() {
        promise = "promise 37";
        WorksCouncil x = team();
        for (int shift = 0; shift < 3; shift++) {
            due("need", x.need(shift, 0), 1);
            due("need", x.need(shift, 2), 0);
            due("need", x.need(shift, 1), 2);
        }
        due("shift 3", x.need(3, -1), -2);
        due("shift -1", x.need(-1, 0), -2);
        due("below", x.need(0, -1), -4);
        due("above", x.need(0, 3), -6);
        promise = "promise 38";
        due("wish", x.wish(4, 3, 2, true), 1);
        due("wish", x.wish(4, 3, 2, true), 0);
        due("no more", x.wish(4, 3, 2, false), 1);
        due("no more", x.wish(4, 3, 2, false), 0);
        due("no person", x.wish(5, 9, 9, true), -1);
        due("no person", x.wish(-1, 0, 0, true), -1);
        due("shift 3", x.wish(0, 9, 3, true), -2);
        due("shift -1", x.wish(0, 0, -1, true), -2);
        due("day 4", x.wish(0, 4, 0, true), -3);
        due("day -1", x.wish(0, -1, 0, true), -3);
        promise = "promise 39 and 40";
        due("shifts", x.shifts(0, 0), 0);
        checkTable(x, 0, "elnx elnx elnx elnx");
        due("rest", x.shifts(0, 1), 0);
        checkTable(x, 1, "elnx elnx elnx elnx");
        due("most", x.shifts(0, 2), 0);
        checkTable(x, 2, "elnx elxn exln xeln");
        due("rest and fair", x.shifts(0, 5), 0);
        checkTable(x, 5, "elnx elxn enlx nxel");
        x.set(4, 2);
        due("most 2", x.shifts(0, 2), -9);
        due("most 2 is not asked", x.shifts(0, 5), 0);
        due("none", x.shiftOf(0, 2, 0, 0), -9);
        due("the fifth", x.shiftOf(0, 0, 4, 0), -9);
        x.leave(0);
        due("the fifth is of the 4 then", x.shiftOf(0, 0, 4, 0), 3);
        due("who left is not", x.shiftOf(0, 0, 0, 0), -9);
        x.leave(1);
        due("fewer than 4", x.shifts(0, 0), -9);
        due("fewer than 4", x.shiftOf(0, 0, 2, 0), -9);
        due("no shop", x.shifts(6, 8), -1);
        due("no shop", x.shifts(-1, 0), -1);
        due("rules 8", x.shifts(0, 8), -2);
        due("rules -1", x.shifts(0, -1), -2);
        due("no shop", x.shiftOf(6, 8, 0, 0), -1);
        due("no person", x.shiftOf(0, 8, 5, 0), -1);
        due("no person", x.shiftOf(0, 0, -1, 0), -1);
        due("rules 8", x.shiftOf(0, 8, 0, 9), -2);
        due("rules -1", x.shiftOf(0, -1, 0, 0), -2);
        due("day 4", x.shiftOf(0, 0, 0, 4), -3);
        due("day -1", x.shiftOf(0, 0, 0, -1), -3);
    }

    private static void wishes() {
        promise = "promise 39, wishes";
        WorksCouncil x = team();
        x.wish(0, 0, 0, true);
        due("one gives way", x.shifts(0, 0), 0);
        checkTable(x, 0, "lenx elnx elnx elnx");
        for (int p = 1; p < 4; p++) x.wish(p, 0, 0, true);
        due("nobody wants it", x.shifts(0, 0), 1);
        checkTable(x, 0, "elnx elnx elnx elnx");
        x.wish(0, 0, 0, false);
        x.wish(3, 3, 2, true);
        x.wish(3, 3, 1, true);
        due("broken ones", x.shifts(0, 0), 0);
        x.need(1, 0);
        x.need(2, 0);
        due("need 1 0 0", x.shifts(0, 7), 0);
        checkTable(x, 7, "exxx exxx exxx xexx");
        x.need(0, 0);
        due("no need", x.shifts(0, 7), 0);
        checkTable(x, 7, "xxxx xxxx xxxx xxxx");
        x.need(2, 2);
        due("two nights a day", x.shifts(0, 4), 0);
        checkTable(x, 4, "nnxx nxxn xxnn xnnx");
    }

    /** Answers of one search must not stand for another's. */
    private static void searchesApart() {
        promise = "promise 39, apart";
        WorksCouncil x = team();
        for (int i = 0; i < 4; i++) x.person(1, -9000, 0, 0, 0);
        String wanted = "xnle";
        for (int p = 5; p < 9; p++) {
            for (int shift = 0; shift < 3; shift++) {
                if ("elnx".charAt(shift) != wanted.charAt(p - 5)) x.wish(p, 2, shift, true);
            }
        }
        due("shop 0", x.shifts(0, 2), 0);
        due("shop 1", x.shifts(1, 2), 0);
        for (int p = 5; p < 9; p++) due("the last arrangement", x.shiftOf(1, 2, p, 2), "elnx".indexOf(wanted.charAt(p - 5)));
        due("shop 0 again", x.shiftOf(0, 2, 0, 2), 0);
        due("most 3", x.shifts(0, 2), 0);
        x.set(4, 2);
        due("most 2", x.shifts(0, 2), -9);
        x.set(4, 4);
        due("most 4", x.shifts(0, 2), 0);
        checkTable(x, 2, "elnx elnx elnx elnx");
        x.wish(0, 0, 0, true);
        x.wish(0, 0, 1, true);
        x.wish(0, 0, 2, true);
        due("bars do not hang on wishes", x.bars(0), -9);
        due("wishes anew", x.shifts(0, 2), 0);
        checkTable(x, 2, "xeln elnx elnx elnx");
        x.wish(0, 0, 0, false);
        due("taken back", x.shiftOf(0, 2, 0, 0), 0);
        for (int p = 0; p < 4; p++) for (int day = 0; day < 4; day++) for (int shift = 0; shift < 3; shift++) x.wish(p, day, shift, true);
        due("all broken", x.shifts(0, 7), 12);
        x.person(2, -9000, 0, 0, 0);
        due("all broken", x.shifts(0, 5), 12);
    }

    private static void bars() {
        promise = "promise 41";
        WorksCouncil x = team();
        due("none", x.bars(0), -9);
        due("not 4", x.bars(1), -8);
        due("no shop", x.bars(6), -1);
        due("no shop", x.bars(-1), -1);
        x.set(4, 2);
        due("most", x.bars(0), 2);
        x.set(4, 4);
        x.need(0, 2);
        due("all work each day", x.bars(0), 5);
        x.need(0, 0);
        x.need(1, 2);
        x.need(2, 2);
        due("rest and fair", x.bars(0), 5);
        due("by rest there are some", x.shifts(0, 1), 0);
        due("by fair there are some", x.shifts(0, 4), 0);
        due("by both none", x.shifts(0, 5), -9);
        x.need(0, 1);
        due("more than 4", x.bars(0), 0);
        due("not even without", x.shifts(0, 0), -9);
        x.leave(0);
        due("the others", x.bars(0), 0);
        x.leave(1);
        due("not 4", x.bars(0), -8);
        due("count(11)", x.count(11), 2);
    }

    private static void pieces() {
        promise = "promise 42";
        WorksCouncil x = new WorksCouncil();
        due("no piece", x.study(5, 0), -1);
        due("no piece", x.study(-1, 1), -1);
        due("below", x.study(0, 0), -4);
        due("above", x.study(0, 1000), -6);
        due("study", x.study(0, 999), 1);
        due("study", x.study(0, 1), 2);
        due("another piece", x.study(4, 1), 1);
        promise = "promise 43";
        due("two are too few", x.time(0, 0), -9);
        x.days(2);
        due("study", x.study(0, 500), 3);
        due("three", x.time(0, 2), 500);
        due("on the day ahead", x.time(0, 1), -9);
        x.study(0, 501);
        due("cut", x.time(0, 2), 500);
        x.study(0, 999);
        due("one greatest alone goes", x.time(0, 2), (500 + 501 + 999) / 3);
        due("a day to come", x.time(0, 1000), (500 + 501 + 999) / 3);
        due("no piece", x.time(5, -1), -1);
        due("no piece", x.time(-1, 0), -1);
        due("below", x.time(0, -1), -4);
        due("above", x.time(0, 1001), -6);
        promise = "promise 44";
        for (int v : new int[] {100, 100, 100}) x.study(1, v);
        due("a tenth", x.changed(1, 90, 2), 1);
        due("a tenth", x.changed(1, 91, 2), 0);
        due("a tenth", x.changed(1, 111, 2), 0);
        due("a tenth", x.changed(1, 112, 2), 1);
        due("same", x.changed(1, 100, 2), 0);
        for (int v : new int[] {110, 110, 110}) x.study(2, v);
        for (int v : new int[] {111, 111, 111}) x.study(3, v);
        due("just a tenth", x.changed(2, 100, 2), 0);
        due("one more", x.changed(3, 100, 2), 1);
        due("the greatest", x.changed(1, 999, 2), 1);
        due("no time", x.changed(1, 1, 1), 0);
        due("no piece", x.changed(5, 0, 0), -1);
        due("no piece", x.changed(-1, 1, 0), -1);
        due("agreed", x.changed(0, 0, 1001), -4);
        due("day", x.changed(0, 1000, -1), -4);
        due("agreed", x.changed(0, 1000, 0), -6);
        due("day", x.changed(0, 999, 1001), -6);
        promise = "promise 42";
        for (int i = 4; i <= 12; i++) due("study", x.study(1, 5), i);
        due("the 13th", x.study(1, 5), -6);
        due("the 13th, below", x.study(1, 0), -4);
    }

    private static void points() {
        promise = "promise 45";
        WorksCouncil x = usual();
        due("weight", x.weight(3, 9), 1);
        due("weight", x.weight(3, 0), 9);
        due("weight", x.weight(3, 1), 0);
        due("which 4", x.weight(4, -1), -2);
        due("which -1", x.weight(-1, 1), -2);
        due("below", x.weight(0, -1), -4);
        due("above", x.weight(0, 10), -6);
        promise = "promise 48";
        due("points", x.points(0), 27 + 8 + 2);
        due("points", x.points(1), 32 + 1 + 30);
        due("no person", x.points(4), -1);
        due("no person", x.points(-1), -1);
        x.weight(0, 2);
        due("age", x.points(0), 54 + 8 + 2);
        x.weight(0, 0);
        x.weight(1, 3);
        due("years", x.points(0), 24 + 2);
        x.weight(1, 0);
        x.weight(2, 5);
        due("children", x.points(0), 10);
        x.weight(2, 0);
        x.weight(3, 2);
        due("hurt", x.points(1), 60);
        x.weight(3, 0);
        x.weight(0, 1);
        x.days(219);
        due("age, the day ahead", x.points(0), 27);
        x.days(1);
        due("age now", x.points(0), 28);
        x.weight(0, 0);
        x.weight(1, 1);
        x.days(64);
        due("years, the day ahead: 284 and 3000", x.points(0), 8);
        x.days(1);
        due("years now: 285 and 3000", x.points(0), 9);
        promise = "promise 46 and 47";
        WorksCouncil y = usual();
        for (int i = 0; i < 3; i++) y.weight(i, 0);
        due("no person", y.right(4, 9, 0), -1);
        due("no person", y.right(-1, 0, 0), -1);
        due("what 2", y.right(0, 2, -1), -2);
        due("what -1", y.right(0, -1, 0), -2);
        due("below", y.right(0, 0, -1), -4);
        due("children", y.right(0, 0, 10), -6);
        due("hurt", y.right(0, 1, 101), -6);
        due("hurt 100", y.right(3, 1, 100), 0);
        due("hurt 0", y.right(3, 1, 0), 100);
        due("children 9", y.right(3, 0, 9), 0);
        due("children 0", y.right(3, 0, 0), 9);
        due("right", y.right(1, 1, 40), 30);
        due("of person 0", y.right(0, 1, 77), 0);
        due("without a list", y.points(1), 40);
        due("list", y.list(), 1);
        due("of person 0, by the list", y.points(0), 77);
        y.days(14);
        due("in time", y.right(1, 1, 50), 40);
        due("points", y.points(1), 50);
        y.days(1);
        due("too late", y.right(1, 1, 60), 50);
        due("points", y.points(1), 50);
        due("person", y.person(0, -10000, 0, 0, 70), 4);
        due("as they came", y.points(4), 70);
        due("by the list's day, too", y.right(4, 1, 80), 70);
        due("points", y.points(4), 70);
        y.set(2, 15);
        due("in time now", y.right(1, 1, 61), 60);
        due("points", y.points(1), 61);
        y.set(2, 0);
        due("in time as it was then", y.points(1), 61);
        y.right(1, 1, 62);
        due("list", y.list(), 1);
        due("what was so when it was told", y.points(1), 62);
        y.set(2, 14);
        y.days(15);
        y.right(0, 1, 5);
        due("too late", y.points(0), 77);
        due("list", y.list(), 1);
        due("what was so when it was told", y.points(0), 5);
        y.set(2, 0);
        due("for all", y.points(4), 80);
        due("on its day", y.right(4, 1, 81), 80);
        due("points", y.points(4), 81);
        y.weight(3, 0);
        y.weight(2, 1);
        due("children", y.right(0, 0, 9), 2);
        due("children", y.points(0), 9);
        y.leave(0);
        due("of who left", y.right(0, 0, 8), 9);
        due("of who left", y.points(0), 8);
    }

    private static void going() {
        promise = "promise 49";
        WorksCouncil x = new WorksCouncil();
        for (int i = 0; i < 4; i++) x.weight(i, 0);
        x.weight(2, 1);
        x.person(0, -10000, -500, 3, 0);
        x.person(0, -10000, -500, 3, 0);
        x.person(0, -10000, -400, 3, 0);
        x.person(0, -10000, -900, 1, 0);
        x.person(1, -10000, -900, 0, 0);
        x.person(0, -10000, -100, 0, 0);
        x.leave(5);
        int[] order = {3, 2, 1, 0};
        for (int i = 0; i < 4; i++) due("goes " + i, x.goes(0, 24, i), order[i]);
        due("fewer are here", x.goes(0, 24, 4), -9);
        due("n of them", x.goes(0, 2, 1), 2);
        due("n of them", x.goes(0, 2, 2), -9);
        due("none", x.goes(0, 0, 0), -9);
        due("i below 0", x.goes(0, 4, -1), -9);
        due("another shop", x.goes(1, 1, 0), 4);
        due("no shop", x.goes(6, -1, 0), -1);
        due("no shop", x.goes(-1, 0, 0), -1);
        due("below", x.goes(0, -1, 0), -4);
        due("above", x.goes(0, 25, 0), -6);
        due("right", x.right(0, 0, 0), 3);
        due("person 0 goes first", x.goes(0, 24, 0), 0);
        due("person 3 goes then", x.goes(0, 24, 1), 3);
        x.right(0, 0, 3);
        x.list();
        x.days(15);
        x.right(3, 0, 9);
        due("by the list", x.goes(0, 1, 0), 3);
        x.list();
        due("by the latest", x.goes(0, 1, 0), 2);
    }

    private static void plans() {
        promise = "promise 50";
        WorksCouncil x = new WorksCouncil();
        due("plan of none", x.plan(), 0);
        due("long", x.planned(0, 7, 1), -4);
        due("due", x.planned(4, -1, 1), -4);
        due("waits", x.planned(1, 0, -1), -4);
        due("waits for itself", x.planned(4, 0, 1), -3);
        due("long", x.planned(4, 0, 0), -6);
        due("due", x.planned(1, 7, 0), -6);
        due("planned", x.planned(2, 0, 0), 0);
        due("planned", x.planned(2, 0, 0), 1);
        due("planned", x.planned(1, 0, 0), 2);
        due("waits for itself", x.planned(1, 0, 8), -3);
        promise = "promise 51";
        due("plan", x.plan(), 1);
        promise = "promise 52";
        due("the first", x.placeOf(0), 0);
        due("the second", x.placeOf(1), 1);
        due("the third", x.placeOf(2), 0);
        due("no matter", x.placeOf(3), -1);
        due("no matter", x.placeOf(-1), -1);
        x.set(3, 4);
        due("roomy", x.plan(), 1);
        due("of several the first", x.placeOf(1), 0);
        due("of several the first", x.placeOf(2), 1);
        x.set(3, 5);
        due("roomy", x.plan(), 0);
        due("planned", x.planned(1, 0, 2), 3);
        due("waits", x.plan(), 1);
        due("behind", x.placeOf(3), 1);
        due("planned", x.planned(3, 6, 8), 4);
        due("due later", x.plan(), 1);
        due("the least place", x.placeOf(4), 2);
        due("planned", x.planned(1, 0, 31), 5);
        due("planned", x.planned(3, 6, 63), 6);
        due("the 8th", x.planned(1, 0, 127), -6);
        due("the 8th, long", x.planned(4, 0, 0), -6);
        due("count(16)", x.count(16), 4);
        due("the 8th, waits", x.planned(4, 0, 128), -3);
        due("plan", x.plan(), 4);
        due("place", x.placeOf(5), 3);
        due("place", x.placeOf(6), 4);
        promise = "promise 51";
        WorksCouncil y = new WorksCouncil();
        for (int i = 0; i < 7; i++) y.planned(3, 0, i == 0 ? 0 : 1 << (i - 1));
        due("a chain", y.plan(), 21);
        for (int i = 0; i < 7; i++) due("place", y.placeOf(i), i);
        WorksCouncil w = new WorksCouncil();
        w.planned(1, 0, 0);
        w.planned(1, 0, 1);
        due("room is left, but it waits", w.plan(), 1);
        WorksCouncil z = new WorksCouncil();
        z.planned(3, 6, 0);
        z.planned(3, 0, 0);
        due("the later one gives way", z.plan(), 0);
        due("place", z.placeOf(0), 1);
        due("place", z.placeOf(1), 0);
    }

    private static void rows() {
        promise = "promise 53";
        WorksCouncil x = usual();
        for (int i = 1; i <= 40; i++) due("put", x.put(i), i);
        due("the 41st", x.put(0), -6);
        promise = "promise 54";
        due("below", x.check(-1, 1), -4);
        due("below", x.check(1, -1), -4);
        due("j behind k", x.check(1, 0), -3);
        due("k behind now", x.check(0, 1), -3);
        due("refused, it stays", x.count(10), 40);
        due("no matter", x.check(0, 0), 0);
        due("none then", x.count(10), 0);
        due("an empty row", x.check(0, 0), -9);
        x.open(4, 1, 0, false);
        x.open(2, 1, 0, false);
        x.days(1);
        x.open(0, 1, 0, false);
        x.put(0);
        due("fewer than there are", x.check(1, 1), -9);
        x.put(0);
        x.put(3);
        x.put(6);
        due("all right", x.check(1, 1), -9);
        x.put(0);
        x.put(3);
        x.put(6);
        due("not opened by then", x.check(0, 1), 2);
        x.put(0);
        x.put(4);
        x.put(5);
        due("the first wrong one", x.check(1, 1), 1);
        x.withdraw(0);
        x.put(1);
        x.put(3);
        due("on day 1", x.check(1, 1), -9);
        x.put(0);
        x.put(3);
        due("on day 0", x.check(0, 1), -9);
        due("count(10)", x.count(10), 0);
        x.days(2);
        x.open(2, 1, 0, false);
        x.term(3, 0, 1);
        x.open(2, 1, 0, false);
        x.paper(4, 0, true);
        x.days(1);
        x.paper(4, 0, false);
        for (int v : new int[] {1, 3, 6, 3, 3}) x.put(v);
        due("as known then", x.check(3, 3), -9);
        for (int v : new int[] {1, 3, 6, 3, 3}) x.put(v);
        due("as known now", x.check(3, 4), 4);
    }

    private static void counts() {
        promise = "promise 55";
        WorksCouncil x = letBySilence();
        x.votes(0, 1);
        x.elect(2);
        x.session(0, 0);
        x.session(0, 0);
        x.agree(0, 1, 1, -1);
        x.deed(-1, 2, 1, 0);
        x.deed(-1, 7, 1, 0);
        x.deed(0, 2, 1, 0);
        x.leave(0);
        x.feed(5, 0);
        x.put(1);
        x.put(1);
        int[] all = {1, 3, 4, 1, 2, 2, 1, 3, 1, 5, 2, 0, 0, 0, 0, 0, 0};
        for (int what = 0; what < all.length; what++) due("count(" + what + ")", x.count(what), all[what]);
        due("count(17)", x.count(17), -9);
        due("count(-1)", x.count(-1), -9);
        x.leave(99);
        x.deedOf(99, 0);
        x.open(9, 1, 1, false);
        x.contract(0, 0, 9);
        x.shifts(0, 9);
        x.leave(0);
        x.days(0);
        x.days(0);
        x.contract(0, -2, 0);
        x.feast(2000);
        int[] refused = {2, 3, 1, 3, 0, 1};
        for (int i = 0; i < 6; i++) due("count(" + (11 + i) + ")", x.count(11 + i), refused[i]);
        x.count(17);
        x.bars(5);
        x.act(1);
        due("what is no refusal is not counted", x.count(12), 3);
        due("what is no refusal is not counted", x.count(14), 3);
    }

    public static void main(String[] args) {
        newObject();
        days();
        feastsAndWorkdays();
        people();
        texts();
        faults();
        rules();
        strikesAndKinds();
        termsAndMatters();
        papers();
        states();
        lettingsOfNo();
        seats();
        sessions();
        votesOnMatters();
        voidSessions();
        settings();
        agreements();
        agreementsFall();
        contracts();
        worths();
        boardsAndCourts();
        deeds();
        urgentDeeds();
        shifts();
        wishes();
        searchesApart();
        bars();
        pieces();
        points();
        going();
        plans();
        rows();
        counts();
        System.out.println("promises: " + asked + " answers, " + wrong + " not as due");
        if (wrong != 0) System.exit(1);
    }
}
