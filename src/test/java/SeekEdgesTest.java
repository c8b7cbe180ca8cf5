/** Promises 22 to 31: each sentence that names an edge has a method of its own. */
public final class SeekEdgesTest {
    private static final Check CHECK = new Check();
    private static final int[] FAR = {-1, 12, 24, 31, 32, 33, 64, 201, Integer.MAX_VALUE, Integer.MIN_VALUE};
    // Days of 24, of 23 and so on: each suits works of its length alone.
    private static final String SIX = "trade a 0 0;trade b 1 1;trade c 2 2;trade d 3 3;trade e 4 4;trade f 5 5;";

    private static void plan(String text, long... want) {
        DayOpeners x = Check.of(text);
        long[] got = new long[7];
        for (int what = 0; what < 7; what++) {
            got[what] = x.plan(what);
        }
        CHECK.row("plan of " + text, got, want);
    }

    /** PLAN: DAYS, 12 at most: how many; -2: not by 12. */
    private static void planOfTwelve() {
        plan("trade a 0 0;work v 24 24 9;", 9, -2, -2, -2, -2, -2, 9);
        plan("trade a 0 0;trade b 1 0;work v 24 24 9;work w 23 23 3;", 9, 3, -2, -2, -2, -2, 12);
        plan("trade a 0 0;trade b 1 0;work v 24 24 9;work w 23 23 4;", -2, -2, -2, -2, -2, -2, -2);
        plan(SIX + "work a 24 24 2;work b 23 23 2;work c 22 22 2;work d 21 21 2;work e 19 19 4;", 2, 2, 2, 2, 0, 4, 12);
        plan(SIX + "work a 24 24 2;work b 23 23 2;work c 22 22 2;work d 21 21 2;work e 19 19 5;", -2, -2, -2, -2, -2, -2, -2);
        plan("trade a 0 0;work v 0 23 1;", -2, -2, -2, -2, -2, -2, -2);
    }

    /** All WORKS are DONE (what WENT ON so far counts; a DAY brings on all WORKS it suits): none needed, none told. */
    private static void planOfNone() {
        plan("", -2, -2, -2, -2, -2, -2, 0);
        plan("work w 0 24 1;", -2, -2, -2, -2, -2, -2, -2);
        plan("trade a 0 0;", 0, -2, -2, -2, -2, -2, 0);
        DayOpeners x = Check.of("trade a 0 0;trade b 9 0;turn a;work w 24 24 2;work v 15 15 1;");
        CHECK.due("at first", x.plan(6), 3);
        x.go(1);
        CHECK.due("one went on", x.plan(6), 2);
        CHECK.due("one went on: a", x.plan(0), 1);
        x.go(1);
        CHECK.due("one is done", x.plan(6), 1);
        CHECK.due("one is done: a", x.plan(0), 0);
        CHECK.due("one is done: b", x.plan(1), 1);
        x.put(0, 1);
        x.go(1);
        CHECK.due("all are done", x.plan(6), 0);
        CHECK.due("all are done: b", x.plan(1), 0);
        CHECK.due("all are done: no third one", x.plan(2), -2);
    }

    /** Of several plans of so many: most DAYS to the first TRADE, then to the next one and so on. */
    private static void planOfSeveral() {
        plan(SIX + "work w 0 24 5;", 5, 0, 0, 0, 0, 0, 5);
        plan(SIX + "work w 0 23 5;", 0, 5, 0, 0, 0, 0, 5);
        plan(SIX + "work v 22 23 4;work w 21 22 4;", 0, 0, 4, 0, 0, 0, 4);
        plan(SIX + "work v 24 24 1;work w 23 24 3;work u 21 24 4;", 4, 0, 0, 0, 0, 0, 4);
        plan(SIX + "work v 19 19 1;work w 20 21 1;work u 0 24 4;", 2, 0, 0, 1, 0, 1, 4);
        plan(SIX + "work v 19 20 2;work w 19 19 1;", 0, 0, 0, 0, 1, 1, 2);
    }

    /** What 0 .. 5: how many DAYS to that TRADE (-2: there are not so many), 6: how many in all; NONE for another what. */
    private static void planWhat() {
        DayOpeners x = Check.of(SIX + "work w 19 19 1;");
        CHECK.due("the sixth", x.plan(5), 1);
        CHECK.due("in all", x.plan(6), 1);
        CHECK.due("what 7", x.plan(7), -1);
        CHECK.due("what -1", x.plan(-1), -1);
        for (int no : FAR) {
            CHECK.due("what " + no, x.plan(no), -1);
            CHECK.due("what " + no + " where all answer -2", Check.of("work w 0 24 1;").plan(no), -1);
        }
    }

    private static void best(String text, int n, long... want) {
        DayOpeners x = Check.of(text);
        long[] got = new long[7];
        for (int what = 0; what < 7; what++) {
            got[what] = x.best(n, what);
        }
        CHECK.row("best of " + n + " of " + text, got, want);
    }

    /** BEST for n DAYS (1 .. 6): as many WORKS as may be are DONE then, of several rows the first by DAYS. */
    private static void bests() {
        String works = "work a 24 24 1;work b 23 23 1;work c 22 22 1;work d 21 21 1;work e 19 19 2;";
        best(SIX + works, 1, 0, -2, -2, -2, -2, -2, 1);
        best(SIX + works, 4, 0, 1, 2, 3, -2, -2, 4);
        best(SIX + works, 5, 0, 0, 1, 2, 3, -2, 4);
        best(SIX + works, 6, 0, 1, 2, 3, 5, 5, 5);
        best(SIX + "work w 19 19 6;", 6, 5, 5, 5, 5, 5, 5, 1);
        best(SIX + "work w 19 19 6;", 5, 0, 0, 0, 0, 0, -2, 0);
        best(SIX + "work w 19 19 7;", 6, 0, 0, 0, 0, 0, 0, 0);
        best(SIX, 6, 0, 0, 0, 0, 0, 0, 0);
        // Each is appointed: neither claims, nor will, nor the list count.
        best("trade a 0 0;trade b 1 0;turn a;claim a 0;claim a 1;law will 1-manner;work w 23 23 2;", 2, 1, 1, -2, -2, -2, -2, 1);
    }

    /** What 0 .. 5: the TRADE of that DAY (-2: there are not so many), 6; -2: there are no TRADES; NONE: no such ones. */
    private static void bestWhat() {
        DayOpeners x = Check.of(SIX + "work w 23 23 1;");
        DayOpeners none = Check.of("work w 23 23 1;");
        for (int n = 1; n <= 6; n++) {
            for (int what = 0; what <= 6; what++) {
                int want = what == 6 ? 1 : what >= n ? -2 : what == n - 1 ? 1 : 0;
                CHECK.due("best " + n + ", " + what, x.best(n, what), want);
                CHECK.due("best " + n + ", " + what + " without trades", none.best(n, what), -2);
            }
            CHECK.due("best " + n + ", -1", x.best(n, -1), -1);
            CHECK.due("best " + n + ", 7", x.best(n, 7), -1);
            CHECK.due("best " + n + ", 7 without trades", none.best(n, 7), -1);
        }
        for (int no : new int[] {-1, 0, 7, 8, 32, Integer.MAX_VALUE, Integer.MIN_VALUE}) {
            CHECK.due("best of " + no, x.best(no, 6), -1);
            CHECK.due("best of " + no + " without trades", none.best(no, 6), -1);
        }
    }

    private static void fair(String text, long... want) {
        DayOpeners x = Check.of(text);
        long[] got = new long[x.count(1)];
        for (int place = 0; place < got.length; place++) {
            got[place] = x.fair(place);
        }
        CHECK.row("fair of " + text, got, want);
    }

    /** FAIR: of PLACES not given away yet, the one whose number is least apart from its MANNER, the first of several. */
    private static void fairs() {
        fair("trade a 0 9;turn a;", 0);
        // Place 0 is had by b, who wants 1; 1 by a, who wants 1 as well: a keeps it, b is left with what is left.
        fair("trade a 0 1;trade b 0 1;turn b;turn a;", 1, 0);
        // 1 is given to a first; then 0 and 2 are as near to 1: the first of them is b's own.
        fair("trade a 0 1;trade b 0 1;trade c 0 1;turn b;turn a;turn c;", 1, 0, 2);
        fair("trade a 0 1;trade b 0 1;trade c 0 1;turn c;turn b;turn a;", 2, 1, 0);
        // Places 1 and 3 are as near to 2, when that is given away: the first one.
        fair("trade a 0 2;trade b 0 3;turn b;turn b;turn a;turn a;", 1, 0, 0, 1);
        // A ring of all twelve places: each wants what is left nearest to 9.
        String twelve = "trade a 0 0;trade b 0 9;" + Check.times(6, "turn b;turn a;");
        fair(twelve, 0, 0, 0, 0, 0, 0, 1, 1, 1, 1, 1, 1);
        fair("trade a 0 9;" + Check.times(12, "turn a;"), 0, 0, 0, 0, 0, 0, 0, 0, 0, 0, 0, 0);
    }

    /** Promise 24: NONE: no such PLACE. */
    private static void fairOfNone() {
        DayOpeners x = Check.of(SIX + Check.times(11, "turn a;") + "turn f;");
        // a takes 0, 1 and so on, one ring of its own behind another, 5 ahead of f as well.
        CHECK.due("fair 5", x.fair(5), 0);
        CHECK.due("fair 11", x.fair(11), 5);
        CHECK.due("fair 12", x.fair(12), -1);
        for (int no : FAR) {
            CHECK.due("fair " + no, x.fair(no), -1);
        }
        CHECK.due("without a list", Check.of(SIX).fair(0), -1);
    }

    /** PAIRS: for each of the two the other PLACE is less apart from MANNER of its TRADE than its own. */
    private static void pairs() {
        CHECK.due("none", new DayOpeners().pairs(), 0);
        CHECK.due("one place", Check.of("trade a 0 5;turn a;").pairs(), 0);
        CHECK.due("both would", Check.of("trade a 0 1;trade b 0 0;turn a;turn b;").pairs(), 1);
        CHECK.due("one would not", Check.of("trade a 0 1;trade b 0 1;turn a;turn b;").pairs(), 0);
        CHECK.due("of one trade", Check.of("trade a 0 1;turn a;turn a;").pairs(), 0);
        // 1 and 3 are as near to 2: no less apart.
        CHECK.due("alike isn't less",
            Check.of("trade a 0 2;trade b 0 0;trade c 0 2;turn b;turn a;turn c;turn b;").pairs(), 0);
        CHECK.due("alike isn't less for the other one",
            Check.of("trade a 0 0;trade b 0 3;trade c 0 2;turn a;turn b;turn c;turn c;").pairs(), 0);
        CHECK.due("less", Check.of("trade a 0 3;trade b 0 0;trade c 0 2;turn b;turn a;turn c;turn b;").pairs(), 1);
        String six = Check.times(6, "turn a;") + Check.times(6, "turn b;");
        // Of the 36 pairs of a (wants 9) and b (wants 0): i goes to 6 + j if |6 + j - 9| < 9 - i; 6 + j always goes to i.
        int want = 0;
        for (int i = 0; i < 6; i++) {
            for (int j = 6; j < 12; j++) {
                want += Math.abs(j - 9) < 9 - i ? 1 : 0;
            }
        }
        CHECK.due("twelve places", Check.of("trade a 0 9;trade b 0 0;" + six).pairs(), want);
    }

    /** POWER: more than half of the PLACES of the LIST together, they hadn't without it (0, if there is no LIST). */
    private static void power() {
        String four = "trade a 0 0;trade b 0 0;trade c 0 0;trade d 0 0;";
        CHECK.due("no list", Check.of(four).power(0), 0);
        CHECK.due("all places", Check.of(four + "turn a;").power(0), 8);
        CHECK.due("no place", Check.of(four + "turn a;").power(1), 0);
        // Half isn't more than half: a needs b.
        CHECK.due("half", Check.of(four + "turn a;turn b;").power(0), 4);
        CHECK.due("half of four", Check.of(four + "turn a;turn a;turn b;turn c;").power(0), 6);
        CHECK.due("a quarter of four", Check.of(four + "turn a;turn a;turn b;turn c;").power(1), 2);
        CHECK.due("more than half", Check.of(four + "turn a;turn a;turn b;").power(0), 8);
        CHECK.due("less than half", Check.of(four + "turn a;turn a;turn b;").power(1), 0);
        DayOpeners x = Check.of(SIX + Check.times(2, "turn a;turn b;turn c;turn d;turn e;turn f;"));
        for (int trade = 0; trade < 6; trade++) {
            // Three others of five with it are just more than half: 10 sets.
            CHECK.due("one of six alike", x.power(trade), 10);
        }
        CHECK.due("power 6", x.power(6), -1);
        for (int no : FAR) {
            CHECK.due("power " + no, x.power(no), -1);
        }
        CHECK.due("trade 4 of four", Check.of(four).power(4), -1);
    }

    /** EVEN (bits; none: they can): 1 they can, 0 they can't; NONE: no such TRADES. */
    private static void even() {
        DayOpeners x = Check.of(SIX + Check.times(5, "turn f;") + "turn a;turn a;turn b;turn c;turn c;turn d;turn d;");
        CHECK.due("none", x.even(0), 1);
        CHECK.due("e, without places", x.even(1 << 4), 1);
        CHECK.due("a and c, two each", x.even(1 | 4), 1);
        CHECK.due("a, c and e", x.even(1 | 4 | 16), 1);
        CHECK.due("a, c and d, two each", x.even(1 | 4 | 8), 0);
        CHECK.due("a and b", x.even(1 | 2), 0);
        CHECK.due("f", x.even(32), 0);
        CHECK.due("f against a, b and c", x.even(32 | 1 | 2 | 4), 1);
        CHECK.due("all", x.even(63), 1);
        CHECK.due("all but e", x.even(47), 1);
        CHECK.due("bit 6", x.even(64), -1);
        CHECK.due("all and bit 6", x.even(127), -1);
        CHECK.due("bit 31", x.even(Integer.MIN_VALUE), -1);
        for (int no : new int[] {-1, -64, 65, 128, 1 << 30, Integer.MAX_VALUE}) {
            CHECK.due("even " + no, x.even(no), -1);
        }
        CHECK.due("bit 1 of one", Check.of("trade a 0 0;").even(2), -1);
        CHECK.due("none of none", new DayOpeners().even(0), 1);
        CHECK.due("bit 0 of none", new DayOpeners().even(1), -1);
    }

    /** RARE: the TRADE, of those with a PLACE, that OPENED least, the first of several; -2: there is none. */
    private static void rare() {
        CHECK.due("no trades", new DayOpeners().rare(), -2);
        CHECK.due("no places", Check.of(SIX).rare(), -2);
        DayOpeners x = Check.of(SIX + "turn f;turn e;turn e;claim d 0;claim e 1;");
        CHECK.due("the first of several with a place", x.rare(), 4);
        x.go(2);
        CHECK.due("opened less", x.rare(), 5);
        x.put(0, 4);
        CHECK.due("the only one", x.rare(), 4);
        x.put(0, 3);
        CHECK.due("the first of several", x.rare(), 3);
        x.put(1, 0);
        CHECK.due("the first trade", x.rare(), 0);
    }

    /** PASS: the difference of HOURS by 3, cut; KNOWN by 20, cut. */
    private static void pass() {
        // With manners 3 and 3 both open if the difference by 3 is 1 at most: then it is a rest, for 2 isn't more.
        for (int hours = 0; hours < 24; hours++) {
            DayOpeners x = Check.of("trade a 0 3;trade b " + hours + " 3;");
            CHECK.due("hours apart by " + hours, x.rest(0, 1, 0), hours < 6 ? 0 : 1);
            CHECK.due("hours apart by " + hours + ", the other way", x.rest(1, 0, 0), hours < 6 ? 0 : 1);
        }
        // With manner 0 nobody opens alone, till KNOWN is 40: KNOWN by 20 is 1 as passing, 2 is more.
        DayOpeners x = Check.of("trade a 0 0;trade b 12 0;");
        for (int days = 0; days < 45; days++) {
            CHECK.due("known " + days, x.rest(0, 1, 0), days < 20 ? 11 : 1);
            CHECK.due("both pass at known " + days, x.rest(0, 1, x.rests(0, 1) - 1), days < 40 ? 11 : 1);
            x.appoint(0);
            x.go(1);
        }
    }

    /** Promises 29, 30: NONE: no such TRADES, alike; -2: there are no so many; NONE likewise, k is below 0. */
    private static void rests() {
        DayOpeners x = Check.of(SIX);
        CHECK.due("the last two", x.rests(4, 5), 1);
        CHECK.due("the last two: both open", x.rest(4, 5, 0), 0);
        CHECK.due("no second one", x.rest(4, 5, 1), -2);
        CHECK.due("no further one", x.rest(4, 5, Integer.MAX_VALUE), -2);
        CHECK.due("k -1", x.rest(4, 5, -1), -1);
        CHECK.due("k lowest", x.rest(4, 5, Integer.MIN_VALUE), -1);
        for (int trade = 0; trade < 6; trade++) {
            CHECK.due("alike " + trade, x.rests(trade, trade), -1);
            CHECK.due("alike " + trade, x.rest(trade, trade, 0), -1);
            CHECK.due("alike, so many " + trade, x.rest(trade, trade, 9), -1);
        }
        for (int no : new int[] {-1, 6, 32, Integer.MAX_VALUE, Integer.MIN_VALUE}) {
            CHECK.due("rests 0, " + no, x.rests(0, no), -1);
            CHECK.due("rests " + no + ", 0", x.rests(no, 0), -1);
            CHECK.due("rest 0, " + no, x.rest(0, no, 0), -1);
            CHECK.due("rest " + no + ", 0", x.rest(no, 0, 0), -1);
            CHECK.due("rest 0, " + no + ", so many", x.rest(0, no, 9), -1);
        }
        CHECK.due("one trade", Check.of("trade a 0 0;").rests(0, 1), -1);
        // By the first one's, then the second one's: 1, 10, 11.
        DayOpeners y = Check.of("trade a 0 1;trade b 6 1;");
        CHECK.due("three of them", y.rests(0, 1), 3);
        int[] want = {1, 10, 11, -2};
        for (int k = 0; k < 4; k++) {
            CHECK.due("rest " + k, y.rest(0, 1, k), want[k]);
        }
    }

    /** Promise 31: SURE (n 0 .. 6) in least terms, what 0: the number above, 1: the one below. NONE: no such ones. */
    private static void sure() {
        for (int slip = 0; slip <= 100; slip++) {
            DayOpeners x = Check.of("slip " + slip + ";");
            for (int n = 0; n <= 6; n++) {
                java.math.BigInteger above = java.math.BigInteger.valueOf(100 - slip).pow(n);
                java.math.BigInteger below = java.math.BigInteger.valueOf(100).pow(n);
                java.math.BigInteger by = above.gcd(below);
                CHECK.due("slip " + slip + " above, " + n, x.sure(n, 0), above.divide(by).longValueExact());
                CHECK.due("slip " + slip + " below, " + n, x.sure(n, 1), below.divide(by).longValueExact());
            }
            CHECK.due("n -1", x.sure(-1, 0), -1);
            CHECK.due("n 7", x.sure(7, 1), -1);
            CHECK.due("what -1", x.sure(6, -1), -1);
            CHECK.due("what 2", x.sure(0, 2), -1);
        }
        for (int no : FAR) {
            CHECK.due("n " + no, new DayOpeners().sure(no, 0), -1);
            CHECK.due("what " + no, new DayOpeners().sure(0, no), -1);
        }
    }

    public static void main(String[] args) {
        planOfTwelve();
        planOfNone();
        planOfSeveral();
        planWhat();
        bests();
        bestWhat();
        fairs();
        fairOfNone();
        pairs();
        power();
        even();
        rare();
        pass();
        rests();
        sure();
        CHECK.ends();
    }
}
