/** Part 2 of the document, NEXT, a DAY, NAMES, VALUES, numbers: each sentence that names an edge has a method of its own. */
public final class DayEdgesTest {
    private static final Check CHECK = new Check();
    // Seed 1 tells 38, 58, 13, 15, 51, 27, 10, 19, 12, 86 of a hundred.
    private static final int[] OF_SEED_1 = {38, 58, 13, 15, 51, 27, 10, 19, 12, 86};

    private static DayOpeners gone(String text, int days) {
        DayOpeners x = Check.of(text);
        CHECK.due("days of " + text, x.go(days), days);
        return x;
    }

    /** NEXT: a PLACE of the LIST, at first 0; behind the last one comes the first one. */
    private static void next() {
        DayOpeners x = Check.of("trade a 0 0;trade b 0 1;trade c 0 2;turn c;turn a;turn b;");
        int[] who = {2, 0, 1, 2, 0, 1, 2};
        for (int day = 0; day < who.length; day++) {
            CHECK.due("next on day " + day, x.count(6), day % 3);
            CHECK.due("who opens day " + day, x.opener(0), who[day]);
            x.go(1);
        }
        CHECK.due("one place: the first one comes again", gone("trade a 0 0;turn a;", 5).count(6), 0);
        CHECK.due("twelve places", gone("trade a 0 0;" + Check.times(12, "turn a;"), 11).count(6), 11);
        CHECK.due("twelve places, all round", gone("trade a 0 0;" + Check.times(12, "turn a;"), 12).count(6), 0);
        CHECK.due("no list", gone("trade a 0 0;", 3).count(6), 0);
    }

    /** The one APPOINTED by call, if one is; else, if its DATE is claimed, that TRADE; else, if there is a LIST; else DARK. */
    private static void whoOpens() {
        String text = "trade a 0 0;trade b 0 1;trade c 0 2;claim b 0;claim b 2;";
        DayOpeners x = Check.of(text + "turn a;");
        CHECK.due("claimed", x.opener(0), 1);
        CHECK.due("by the list", x.opener(1), 0);
        x.appoint(2);
        CHECK.due("appointed", x.opener(0), 2);
        x.go(1);
        CHECK.due("for that day alone", x.opener(0), 0);
        CHECK.due("claimed", x.opener(1), 1);
        DayOpeners y = Check.of(text);
        CHECK.due("claimed without a list", y.opener(0), 1);
        CHECK.due("dark without a list", y.opener(1), -2);
        y.go(1);
        y.appoint(2);
        CHECK.due("appointed without a list", y.opener(0), 2);
    }

    /** A number modulo 100 below slip: it is a MISTAKE. */
    private static void belowSlip() {
        for (int i = 0; i < OF_SEED_1.length; i++) {
            int told = OF_SEED_1[i];
            String list = "trade a 0 0;turn a;seed 1;slip ";
            int ahead = 0;
            int same = 0;
            for (int j = 0; j <= i; j++) {
                ahead += OF_SEED_1[j] < told ? 1 : 0;
                same += OF_SEED_1[j] <= told ? 1 : 0;
            }
            CHECK.due("slip " + told + ": what is drawn isn't below it", gone(list + told + ";", i + 1).count(8), ahead);
            CHECK.due("slip " + (told + 1) + ": it is", gone(list + (told + 1) + ";", i + 1).count(8), same);
        }
    }

    /** No number, if slip is 0 or 100. */
    private static void alwaysOrNever() {
        CHECK.due("slip 0", gone("trade a 0 0;turn a;slip 0;", 200).count(8), 0);
        CHECK.due("slip 100", gone("trade a 0 0;turn a;slip 100;", 200).count(8), 200);
        int most = gone("trade a 0 0;turn a;slip 99;seed 1;", 200).count(8);
        int least = gone("trade a 0 0;turn a;slip 1;seed 1;", 200).count(8);
        CHECK.due("slip 99: nearly always, " + most, most > 150 && most < 200, true);
        CHECK.due("slip 1: nearly never, " + least, least > 0 && least < 50, true);
    }

    /** NEXT goes on by 1 (past the last PLACE it is 0; whether anybody opens it then or not). */
    private static void byMistake() {
        DayOpeners x = Check.of("trade a 0 0;trade b 0 1;trade c 0 2;turn a;turn b;turn c;slip 100;");
        int[] who = {1, 0, 2, 1, 0, 2};
        int[] next = {2, 1, 0, 2, 1, 0};
        for (int day = 0; day < who.length; day++) {
            CHECK.due("by mistake, who opens day " + day, x.opener(0), who[day]);
            x.go(1);
            CHECK.due("by mistake, next behind day " + day, x.count(6), next[day]);
            CHECK.due("mistakes behind day " + day, x.count(8), day + 1);
        }
        DayOpeners y = Check.of("trade a 0 0;turn a;turn a;turn a;slip 100;law will 0;");
        for (int day = 1; day < 8; day++) {
            y.go(1);
            CHECK.due("by mistake, nobody opens it, next behind day " + day, y.count(6), day % 3);
            CHECK.due("mistakes though it is dark", y.count(8), day);
            CHECK.due("dark", y.count(9), day);
        }
        CHECK.due("one place: past the last one it is 0", gone("trade a 0 0;turn a;slip 100;law will 0;", 3).count(6), 0);
    }

    /** From NEXT on, all round once at most: the first of which E of will isn't 0 opens it, NEXT is the PLACE behind its one. */
    private static void allRound() {
        // Only b wills, who has the place ahead of NEXT: the last one that is asked.
        DayOpeners x = Check.of("trade a 0 0;trade b 0 1;turn a;turn a;turn b;turn a;law will manner;");
        int[] next = {3, 3, 3};
        for (int day = 0; day < next.length; day++) {
            CHECK.due("b opens", x.opener(0), 1);
            x.go(1);
            CHECK.due("next is behind b", x.count(6), next[day]);
        }
        DayOpeners last = gone("trade a 0 0;trade b 0 1;turn a;turn b;law will manner;", 1);
        CHECK.due("behind the last place comes the first one", last.count(6), 0);
        DayOpeners two = gone("trade a 0 0;trade b 0 1;trade c 0 2;turn a;turn c;turn b;law will manner;", 1);
        CHECK.due("the first one that wills", two.trade(2, 3), 1);
        CHECK.due("not a later one", two.trade(1, 3), 0);
        CHECK.due("what isn't 0 wills: below 0", Check.of("trade a 0 0;turn a;law will 0-1;").opener(0), 0);
        CHECK.due("what isn't 0 wills: far above", Check.of("trade a 0 0;turn a;law will 9999*9999;").opener(0), 0);
        CHECK.due("0 doesn't", Check.of("trade a 0 0;turn a;law will 1-1;").opener(0), -2);
    }

    /** E of will: 1 without, with an ERROR. */
    private static void willOfNone() {
        CHECK.due("without", Check.of("trade a 0 0;turn a;").opener(0), 0);
        CHECK.due("with an error", Check.of("trade a 0 0;turn a;law will 0/0;").opener(0), 0);
        CHECK.due("with an error of one", Check.of("trade a 0 0;trade b 0 1;turn b;turn a;law will 0/manner;").opener(0), 0);
        CHECK.due("too large", Check.of("trade a 0 0;turn a;law will 0*(9999*9999*9999*9999);").opener(0), 0);
    }

    /** If there is none, NEXT stays there. */
    private static void nobody() {
        DayOpeners x = Check.of("trade a 0 0;turn a;turn a;turn a;law will date<2;");
        x.go(2);
        CHECK.due("next", x.count(6), 2);
        for (int day = 2; day < 6; day++) {
            CHECK.due("dark", x.opener(0), -2);
            x.go(1);
            CHECK.due("next stays", x.count(6), 2);
            CHECK.due("days dark", x.count(9), day - 1);
            CHECK.due("nobody opened", x.trade(0, 3), 2);
            CHECK.due("nobody is known more", x.trade(0, 2), 2);
        }
    }

    /** Who is APPOINTED or claims it isn't asked by E of will, no number is drawn then. */
    private static void unasked() {
        DayOpeners x = Check.of("trade a 0 0;trade b 0 0;turn a;claim b 0;law will 0;");
        CHECK.due("claims", x.opener(0), 1);
        x.appoint(0);
        CHECK.due("is appointed", x.opener(0), 0);
        // 38 of a hundred is the first number: with one drawn ahead it would be 58.
        String list = "trade a 0 0;turn a;turn a;turn a;slip 39;seed 1;";
        CHECK.due("the first day draws", gone(list, 1).count(8), 1);
        CHECK.due("the second day doesn't make one", gone(list, 2).count(8), 1);
        DayOpeners claimed = gone(list + "claim a 0;", 1);
        CHECK.due("a claimed day makes none", claimed.count(8), 0);
        CHECK.due("next stays on a claimed day", claimed.count(6), 0);
        claimed.go(1);
        CHECK.due("a claimed day draws none", claimed.count(8), 1);
        DayOpeners appointed = Check.of(list);
        appointed.appoint(0);
        appointed.go(1);
        CHECK.due("a day with an appointed one makes none", appointed.count(8), 0);
        CHECK.due("next stays with an appointed one", appointed.count(6), 0);
        appointed.go(1);
        CHECK.due("a day with an appointed one draws none", appointed.count(8), 1);
        CHECK.due("no list, no number", gone("slip 50;", 9).count(8), 0);
    }

    /** Its LENGTH is E of length (put to 0 .. 24; 24 less HOUR without, with an ERROR). */
    private static void length() {
        String[] laws = {"0", "24", "25", "0-1", "9999*9999*9999", "0-9999*9999*9999", "1/0"};
        int[] lengths = {0, 24, 24, 0, 24, 0, 17};
        for (int i = 0; i < laws.length; i++) {
            DayOpeners x = Check.of("trade a 7 0;turn a;law length " + laws[i] + ";");
            CHECK.due("length by " + laws[i], x.length(0), lengths[i]);
            CHECK.due("long by " + laws[i], x.longAt(0), lengths[i]);
            CHECK.due("lengths by " + laws[i], x.ahead(3, 4, 0), 3 * lengths[i]);
        }
        CHECK.due("hour 0", Check.of("trade a 0 0;turn a;").longAt(0), 24);
        CHECK.due("hour 23", Check.of("trade a 23 0;turn a;").longAt(0), 1);
        CHECK.due("a day of length 0 is opened", gone("trade a 0 0;turn a;law length 0;", 1).trade(0, 3), 1);
    }

    /** KNOWN (0 at first) is E of fame (put to -9 .. 9; 1 without, with an ERROR) more, 0 .. 999 then. */
    private static void fame() {
        String[] laws = {"9", "10", "9999", "0", "1/0", "9999*9999*9999*9999"};
        int[] known = {9, 9, 9, 0, 1, 1};
        for (int i = 0; i < laws.length; i++) {
            CHECK.due("known by " + laws[i], gone("trade a 7 0;turn a;law fame " + laws[i] + ";", 1).trade(0, 2), known[i]);
        }
        CHECK.due("known without", gone("trade a 7 0;turn a;", 1).trade(0, 2), 1);
        CHECK.due("at first", Check.of("trade a 7 0;turn a;").trade(0, 2), 0);
        // Two days of 9, then less.
        for (int less : new int[] {8, 9, 10, 9999}) {
            DayOpeners x = gone("trade a 7 0;turn a;law fame 9-(date>1)*(9+" + less + ");", 2);
            CHECK.due("known of 18", x.trade(0, 2), 18);
            x.go(1);
            CHECK.due("less by " + less + ", by 9 at most", x.trade(0, 2), 18 - Math.min(9, less));
            x.go(2);
            CHECK.due("never below 0", x.trade(0, 2), Math.max(0, 18 - 3 * Math.min(9, less)));
        }
        DayOpeners y = gone("trade a 7 0;turn a;law fame 9;", 110);
        CHECK.due("110 days", y.trade(0, 2), 990);
        y.go(1);
        CHECK.due("111 days", y.trade(0, 2), 999);
        y.go(1);
        CHECK.due("999 at most", y.trade(0, 2), 999);
        DayOpeners z = gone("trade a 7 0;turn a;law fame 9-(date=111)-(date=112)*10;", 112);
        CHECK.due("from 999 on", z.trade(0, 2), 999);
        z.go(1);
        CHECK.due("from what it is then, not from what it were", z.trade(0, 2), 998);
    }

    /** And then it OPENED once more, 9999 at most: E of fame is asked with what it was, as is E of length. */
    private static void opened() {
        DayOpeners x = gone("trade a 7 0;turn a;law fame opened;law length opened;", 1);
        CHECK.due("fame with none opened", x.trade(0, 2), 0);
        CHECK.due("one opened", x.trade(0, 3), 1);
        CHECK.due("length with one opened", x.longAt(0), 1);
        x.go(1);
        CHECK.due("fame with one opened", x.trade(0, 2), 1);
        DayOpeners y = Check.of("trade a 7 0;turn a;law length opened-9985;law fame 0;");
        for (int i = 0; i < 49; i++) {
            y.go(200);
        }
        CHECK.due("9800 opened", y.trade(0, 3), 9800);
        CHECK.due("9998 opened ahead of it", y.longAt(198), 13);
        CHECK.due("9999 opened ahead of it", y.longAt(199), 14);
        CHECK.due("9999 at most", y.longAt(200), 14);
    }

    /** LENGTH of a DAY is known to E of fame by last of the day ahead alone; KNOWN is behind LENGTH. */
    private static void order() {
        DayOpeners x = gone("trade a 4 0;turn a;law fame last;law length known+5;", 1);
        CHECK.due("no day ahead", x.trade(0, 2), 0);
        x.go(1);
        CHECK.due("5, of the day ahead", x.trade(0, 2), 5);
        CHECK.due("length by what is known now", x.length(0), 10);
        DayOpeners y = gone("trade a 4 0;turn a;work w 0 24 1;law fame left;", 1);
        CHECK.due("the work isn't done yet, when fame is asked", y.trade(0, 2), 1);
        y.go(1);
        CHECK.due("then it is", y.trade(0, 2), 1);
    }

    /** Each WORK of which LOW is LENGTH at most and HIGH LENGTH at least: it WENT ON one DAY more (DONE, when that is NEED). */
    private static void works() {
        DayOpeners x = gone("trade a 14 0;turn a;work a 10 10 1;work b 0 9 1;work c 11 24 1;work d 10 24 2;work e 0 10 3;", 1);
        int[] one = {1, 0, 0, 1, 1};
        int[] more = {1, 0, 0, 2, 3};
        for (int work = 0; work < 5; work++) {
            CHECK.due("went on, work " + work, x.work(work, 3), one[work]);
        }
        CHECK.due("one is done", x.count(7), 1);
        x.go(1);
        CHECK.due("two are done", x.count(7), 2);
        x.go(8);
        CHECK.due("three are done", x.count(7), 3);
        for (int work = 0; work < 5; work++) {
            CHECK.due("went on till done, work " + work, x.work(work, 3), more[work]);
        }
        DayOpeners none = gone("trade a 14 0;turn a;work a 24 0 1;work b 11 9 1;work c 10 9 1;work d 11 10 1;", 3);
        CHECK.due("high below low: never", none.count(7), 0);
        DayOpeners edge = gone("trade a 0 0;turn a;work a 0 24 9;work b 24 24 9;work c 0 0 1;law length 24*(date<9);", 9);
        CHECK.due("need 9", edge.count(7), 2);
        edge.go(1);
        CHECK.due("length 0", edge.count(7), 3);
        DayOpeners dark = gone("trade a 0 0;turn a;work w 0 0 1;law will 0;law length 0;", 3);
        CHECK.due("a dark day brings no work on", dark.work(0, 3), 0);
    }

    /** NAMES: last: LENGTH of the DAY that was opened latest ahead of this one (0: none was). */
    private static void last() {
        DayOpeners x = Check.of("trade a 4 0;trade b 9 1;turn a;turn b;law will date<>1;law fame last/3;");
        CHECK.due("none was", x.law(1, 0), 0);
        x.go(1);
        CHECK.due("by a", x.law(1, 1), 6);
        x.go(1);
        CHECK.due("still by a, behind a dark day", x.law(1, 1), 6);
        CHECK.due("of another trade, too", x.law(1, 0), 6);
        x.go(1);
        CHECK.due("by b", x.law(1, 0), 5);
    }

    /** NAMES: left: how many WORKS aren't DONE; opened, known: of the TRADE; date: the DAY. */
    private static void names() {
        DayOpeners x = Check.of("trade a 4 0;turn a;law will date*100+left*10+opened;");
        CHECK.due("no works", x.law(2, 0), 0);
        x.go(12);
        CHECK.due("day 12, opened on all but the first, when it was 0", x.law(2, 0), 1211);
        DayOpeners y = Check.of("trade a 4 0;turn a;work v 20 20 1;work w 20 20 2;work u 0 0 1;law fame left;");
        CHECK.due("all are left", y.law(1, 0), 3);
        y.go(1);
        CHECK.due("one is done", y.law(1, 0), 2);
        y.go(1);
        CHECK.due("two are done", y.law(1, 0), 1);
        y.go(9);
        CHECK.due("one is left", y.law(1, 0), 1);
        CHECK.due("behind date 99", gone("trade a 4 0;law will date;", 150).law(2, 0), 150);
    }

    private static void value(String e, long want) {
        CHECK.due("value of " + e, Check.of("trade a 7 3;law will " + e + ";").law(2, 0), want);
    }

    /** Comparisons, and, or, not are 1 or 0 (what isn't 0 is as 1, both sides are worked out). */
    private static void truths() {
        value("5 and 7", 1);
        value("5 and (0-7)", 1);
        value("5 and 0", 0);
        value("0 and 0", 0);
        value("0 or 9", 1);
        value("0 or (0-9)", 1);
        value("0 or 0", 0);
        value("not (0-3)", 0);
        value("not 0", 1);
        value("(2<3)+(3<=3)+(3=3)+(3<>4)+(4>=4)+(4>3)", 6);
        value("(3<3)+(4<=3)+(3=4)+(4<>4)+(3>=4)+(3>3)", 0);
        value("1 or 1/0", Long.MIN_VALUE);
        value("0 and 1/0", Long.MIN_VALUE);
        value("1/0 or 1", Long.MIN_VALUE);
        value("1/0 and 0", Long.MIN_VALUE);
        value("not (1/0)", Long.MIN_VALUE);
        value("1/0=1/0", Long.MIN_VALUE);
    }

    /** / is cut towards 0. ERROR: / by 0, a value above 10 to the 12 or below 0 by more than that. */
    private static void errors() {
        value("7/2", 3);
        value("(0-7)/2", -3);
        value("7/(0-2)", -3);
        value("(0-7)/(0-2)", 3);
        value("1/2", 0);
        value("(0-1)/2", 0);
        value("0/5", 0);
        value("5/0", Long.MIN_VALUE);
        value("0/0", Long.MIN_VALUE);
        value("5/(3-manner)", Long.MIN_VALUE);
        String high = "1000*1000*1000*1000";
        value(high, 1000000000000L);
        value(high + "+0", 1000000000000L);
        value(high + "+1", Long.MIN_VALUE);
        value("1+" + high, Long.MIN_VALUE);
        value("0-" + high, -1000000000000L);
        value("0-" + high + "-0", -1000000000000L);
        value("0-" + high + "-1", Long.MIN_VALUE);
        value("0-1-" + high, Long.MIN_VALUE);
        value("(" + high + "+1)*0", Long.MIN_VALUE);
        value("(" + high + ")*1", 1000000000000L);
        value("(" + high + ")*(0-1)", -1000000000000L);
        value("(0-" + high + ")*(0-1)", 1000000000000L);
        value("(" + high + ")*2", Long.MIN_VALUE);
        value("(0-" + high + ")*2", Long.MIN_VALUE);
        value("2*(0-" + high + ")", Long.MIN_VALUE);
        value("(" + high + ")*(" + high + ")", Long.MIN_VALUE);
        value("(0-" + high + ")*(0-" + high + ")", Long.MIN_VALUE);
        value("(" + high + ")*0", 0);
        value("0*(" + high + ")", 0);
        value("(" + high + ")/(" + high + ")", 1);
        value("(" + high + "+1)/2", Long.MIN_VALUE);
        // 3037000500 by itself is beyond a long by a little, 4294967296 by itself is 0 in a long.
        value("(3037*1000*1000+500)*(3037*1000*1000+500)", Long.MIN_VALUE);
        value("(4294*1000*1000+967*1000+296)*(4294*1000*1000+967*1000+296)", Long.MIN_VALUE);
        value("9999*9999*9999*9999*9999*9999*9999*9999*0", Long.MIN_VALUE);
    }

    private static String powerOfTwo(int n) {
        int last = n % 12;
        return Check.times(n / 12, "4096*") + (1 << last);
    }

    /** A value above 10 to the 12 (some 2 to the 39.9), also where a long would wrap round to a smaller one. */
    private static void wraps() {
        for (int a = 0; a < 40; a++) {
            for (int b = 0; b < 40; b++) {
                long want = a + b < 40 ? 1L << a + b : Long.MIN_VALUE;
                value("(" + powerOfTwo(a) + ")*(" + powerOfTwo(b) + ")", want);
                value("(0-" + powerOfTwo(a) + ")*(" + powerOfTwo(b) + ")", want == Long.MIN_VALUE ? want : -want);
            }
        }
        for (int a = 0; a < 40; a++) {
            long power = 1L << a;
            value(powerOfTwo(a) + "+" + powerOfTwo(a), a < 39 ? 2 * power : Long.MIN_VALUE);
            value("0-" + powerOfTwo(a) + "-" + powerOfTwo(a), a < 39 ? -2 * power : Long.MIN_VALUE);
        }
    }

    /** Numbers: the last one, whole, times 1103515245 and 12345, without what is above 31 bits; what is told is that by 65536. */
    private static void numbers() {
        for (int seed : new int[] {0, 1, 2, 77, 65535, 65536, 99998, 99999}) {
            for (int slip : new int[] {1, 37, 50, 99}) {
                long number = seed;
                int mistakes = 0;
                for (int day = 0; day < 200; day++) {
                    number = (number * 1103515245L + 12345L) % 2147483648L;
                    mistakes += number / 65536 % 100 < slip ? 1 : 0;
                }
                DayOpeners x = gone("trade a 0 0;turn a;slip " + slip + ";seed " + seed + ";", 200);
                CHECK.due("mistakes of seed " + seed + ", slip " + slip, x.count(8), mistakes);
            }
        }
    }

    /** AS IT GOES: without numbers: it is a MISTAKE, if slip is 50 at least. */
    private static void asItGoes() {
        int[] slips = {0, 1, 49, 50, 51, 99, 100};
        for (int slip : slips) {
            DayOpeners x = Check.of("trade a 0 0;trade b 5 1;turn a;turn b;seed 7;slip " + slip + ";");
            CHECK.due("as it goes with slip " + slip, x.opener(0), slip >= 50 ? 1 : 0);
            CHECK.due("mistakes as it goes with slip " + slip, x.ahead(9, 3, 0), slip >= 50 ? 9 : 0);
            x.go(0);
            int drawn = x.count(8);
            x.ahead(200, 0, 0);
            CHECK.due("nothing is done by it", x.count(8), drawn);
        }
    }

    public static void main(String[] args) {
        next();
        whoOpens();
        belowSlip();
        alwaysOrNever();
        byMistake();
        allRound();
        willOfNone();
        nobody();
        unasked();
        length();
        fame();
        opened();
        order();
        works();
        last();
        names();
        truths();
        errors();
        wraps();
        numbers();
        asItGoes();
        CHECK.ends();
    }
}
