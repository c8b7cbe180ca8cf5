/** Promises 1, 6 to 10, 15 to 21 and 42: each sentence that names an edge has a method of its own. */
public final class LookEdgesTest {
    private static final Check CHECK = new Check();
    private static final int[] FAR = {-1, 12, 24, 31, 32, 33, 64, 201, Integer.MAX_VALUE, Integer.MIN_VALUE};
    private static final String SIX = "trade a 0 0;trade b 1 1;trade c 2 2;trade d 3 3;trade e 4 4;trade f 5 5;";

    /** Promise 1: a TEXT without LINES; an empty TAPE. */
    private static void newObject() {
        DayOpeners x = new DayOpeners();
        for (int what = 0; what < 14; what++) {
            CHECK.due("count " + what, x.count(what), 0);
        }
        CHECK.due("the tape is empty", x.text(1), -2);
        CHECK.due("the first bytes", x.feed(0, 0, 0, 0, 0), 20);
        CHECK.due("days are dark", x.missing(200), 200);
        CHECK.due("one can go", x.go(200), 200);
        CHECK.due("an image", x.keep(), 200);
        CHECK.due("back", x.back(), 200);
    }

    /** Promise 6: IndexOutOfBoundsException: no such TRADE. NoSuchElementException: no such what. */
    private static void trade() {
        DayOpeners x = Check.of(SIX + "turn f;turn a;turn f;");
        x.go(3);
        int[] sixth = {5, 5, 2, 2, 2};
        for (int what = 0; what < 5; what++) {
            CHECK.due("the sixth, what " + what, x.trade(5, what), sixth[what]);
        }
        CHECK.due("what -1", Check.thrownBy(x, 5, -1), 2);
        CHECK.due("what 5", Check.thrownBy(x, 5, 5), 2);
        CHECK.due("trade -1", Check.thrownBy(x, -1, 4), 1);
        CHECK.due("trade 6", Check.thrownBy(x, 6, 0), 1);
        for (int no : FAR) {
            CHECK.due("trade " + no, Check.thrownBy(x, no, 0), 1);
            CHECK.due("what " + no, Check.thrownBy(x, 0, no), 2);
        }
        DayOpeners one = Check.of("trade a 1 1;");
        CHECK.due("the only one", Check.thrownBy(one, 0, 0), 0);
        CHECK.due("behind it", Check.thrownBy(one, 1, 0), 1);
    }

    /** Promise 7: NONE: no such PLACE. */
    private static void place() {
        DayOpeners x = Check.of(SIX + Check.times(11, "turn b;") + "turn f;");
        CHECK.due("place 0", x.place(0), 1);
        CHECK.due("place 11", x.place(11), 5);
        CHECK.due("place 12", x.place(12), -1);
        for (int no : FAR) {
            CHECK.due("place " + no, x.place(no), -1);
        }
        CHECK.due("without a list", Check.of(SIX).place(0), -1);
    }

    /** Promise 8: NONE: no such ones. */
    private static void work() {
        DayOpeners x = Check.of("trade a 4 0;turn a;work v 1 2 3;work w 10 20 2;");
        x.go(1);
        int[] of = {10, 20, 2, 1};
        for (int what = 0; what < 4; what++) {
            CHECK.due("what " + what, x.work(1, what), of[what]);
        }
        CHECK.due("what -1", x.work(1, -1), -1);
        CHECK.due("what 4", x.work(1, 4), -1);
        CHECK.due("work -1", x.work(-1, 0), -1);
        CHECK.due("work 2", x.work(2, 0), -1);
        for (int no : FAR) {
            CHECK.due("work " + no, x.work(no, 3), -1);
            CHECK.due("work what " + no, x.work(0, no), -1);
        }
    }

    /** Promise 9: Long.MIN_VALUE: an ERROR, no such law, no such TRADE. */
    private static void law() {
        DayOpeners x = Check.of("trade a 4 0;trade b 5 1;law length 7/manner;law will 0-8;");
        CHECK.due("an error", x.law(0, 0), Long.MIN_VALUE);
        CHECK.due("none of another trade", x.law(0, 1), 7);
        CHECK.due("fame isn't told", x.law(1, 0), Long.MIN_VALUE);
        CHECK.due("will, below 0", x.law(2, 1), -8);
        CHECK.due("law -1", x.law(-1, 1), Long.MIN_VALUE);
        CHECK.due("law 3", x.law(3, 1), Long.MIN_VALUE);
        CHECK.due("trade -1", x.law(2, -1), Long.MIN_VALUE);
        CHECK.due("trade 2", x.law(2, 2), Long.MIN_VALUE);
        for (int no : FAR) {
            CHECK.due("law " + no, x.law(no, 1), Long.MIN_VALUE);
            CHECK.due("law of trade " + no, x.law(2, no), Long.MIN_VALUE);
        }
        CHECK.due("not put to 0 .. 24", Check.of("trade a 4 0;law length 25;").law(0, 0), 25);
        CHECK.due("not put to -9 .. 9", Check.of("trade a 4 0;law fame 0-10;").law(1, 0), -10);
    }

    /** Promise 10: NONE: no such TRADE. */
    private static void length() {
        DayOpeners x = Check.of("trade a 4 0;trade b 23 1;");
        CHECK.due("trade 0", x.length(0), 20);
        CHECK.due("trade 1", x.length(1), 1);
        CHECK.due("trade 2", x.length(2), -1);
        for (int no : FAR) {
            CHECK.due("length of " + no, x.length(no), -1);
        }
    }

    /** Promise 15: AHEAD (n 0 .. 200), what 0 .. 4 (of all but 1 the TRADE isn't looked at). NONE: no such ones. */
    private static void ahead() {
        DayOpeners x = Check.of("trade a 4 0;turn a;work w 20 20 3;slip 50;claim a 5;law will date<100;");
        int[] none = {0, 0, 0, 0, 0};
        int[] far = {1, 100, 100, 199, 2000};
        for (int what = 0; what < 5; what++) {
            CHECK.due("ahead 0, what " + what, x.ahead(0, what, 0), none[what]);
            CHECK.due("ahead 200, what " + what, x.ahead(200, what, 0), far[what]);
            CHECK.due("ahead -1, what " + what, x.ahead(-1, what, 0), -1);
            CHECK.due("ahead 201, what " + what, x.ahead(201, what, 0), -1);
            for (int no : FAR) {
                CHECK.due("ahead 200, what " + what + ", trade " + no, x.ahead(200, what, no), what == 1 ? -1 : far[what]);
            }
            CHECK.due("ahead 200, what " + what + ", trade 1", x.ahead(200, what, 1), what == 1 ? -1 : far[what]);
        }
        CHECK.due("what -1", x.ahead(1, -1, 0), -1);
        CHECK.due("what 5", x.ahead(1, 5, 0), -1);
        for (int no : FAR) {
            CHECK.due("ahead what " + no, x.ahead(1, no, 0), -1);
            CHECK.due("ahead for " + no, x.ahead(no, 0, 0), no >= 0 && no <= 200 ? x.ahead(no, 0, 5) : -1);
        }
        x.go(10);
        CHECK.due("done counts from the text on", x.ahead(0, 0, 0), 1);
        CHECK.due("known counts from the text on", x.ahead(0, 1, 0), 10);
        CHECK.due("dark counts from this day on", x.ahead(100, 2, 0), 10);
        CHECK.due("mistakes count from this day on", x.ahead(100, 3, 0), 100);
        CHECK.due("lengths count from this day on", x.ahead(100, 4, 0), 1800);
        x.go(95);
        CHECK.due("days were dark", x.count(9), 5);
        CHECK.due("dark counts from this day on", x.ahead(7, 2, 0), 7);
        CHECK.due("so does missing", x.missing(7), 7);
        CHECK.due("nothing is done by it", x.count(5), 105);
    }

    /** Promises 16, 17: n 0 .. 200; 0: this DAY; -2: it is DARK; NONE: no such n. */
    private static void openerAndLong() {
        DayOpeners x = Check.of("trade a 4 0;trade b 9 0;turn a;claim b 3;law will date<>1 and date<199;");
        int[] who = {0, -2, 0, 1};
        int[] length = {20, -2, 20, 15};
        for (int n = 0; n < 4; n++) {
            CHECK.due("opener " + n, x.opener(n), who[n]);
            CHECK.due("long " + n, x.longAt(n), length[n]);
        }
        CHECK.due("opener 198", x.opener(198), 0);
        CHECK.due("opener 199", x.opener(199), -2);
        CHECK.due("opener 200", x.opener(200), -2);
        CHECK.due("long 200", x.longAt(200), -2);
        CHECK.due("opener -1", x.opener(-1), -1);
        CHECK.due("opener 201", x.opener(201), -1);
        CHECK.due("long -1", x.longAt(-1), -1);
        CHECK.due("long 201", x.longAt(201), -1);
        DayOpeners y = Check.of("trade a 4 0;turn a;law length date;");
        CHECK.due("opener 200, not dark", y.opener(200), 0);
        CHECK.due("long 200, not dark", y.longAt(200), 24);
        CHECK.due("long 0, not dark", y.longAt(0), 0);
        y.go(200);
        CHECK.due("this day", y.longAt(0), 24);
    }

    /** Promise 18: in how many DAYS, 199 at most, it is DONE (0: it is); -2: not by then; NONE: no such WORK. */
    private static void doneWhen() {
        for (int day = 196; day < 201; day++) {
            DayOpeners x = Check.of("trade a 4 0;turn a;work v 0 19 1;work w 20 20 2;law will date=0 or date=" + day + ";");
            CHECK.due("opened on day " + day, x.doneWhen(1), day < 199 ? day + 1 : -2);
            CHECK.due("never", x.doneWhen(0), -2);
            CHECK.due("work 2", x.doneWhen(2), -1);
            CHECK.due("work -1", x.doneWhen(-1), -1);
        }
        DayOpeners y = Check.of("trade a 4 0;turn a;work w 20 20 2;");
        CHECK.due("in 2", y.doneWhen(0), 2);
        y.go(1);
        CHECK.due("in 1", y.doneWhen(0), 1);
        y.go(1);
        CHECK.due("it is", y.doneWhen(0), 0);
        y.go(1);
        CHECK.due("it was", y.doneWhen(0), 0);
        for (int no : FAR) {
            CHECK.due("work " + no, y.doneWhen(no), -1);
        }
    }

    /** Promise 19: in how many DAYS, 199 at most, it has OPENED one (1: this one); -2: not by then; NONE: no such TRADE. */
    private static void soon() {
        for (int day = 196; day < 201; day++) {
            DayOpeners x = Check.of("trade a 4 0;trade b 4 1;turn a;turn b;law will manner=0 or date=" + day + ";");
            CHECK.due("this one", x.soon(0), 1);
            // a opens all days but this one: b is asked on each, for NEXT is behind a's place.
            CHECK.due("opens on day " + day, x.soon(1), day < 199 ? day + 1 : -2);
            CHECK.due("trade 2", x.soon(2), -1);
            CHECK.due("trade -1", x.soon(-1), -1);
            for (int no : FAR) {
                CHECK.due("soon " + no, x.soon(no), -1);
            }
        }
    }

    /** Promise 20: for how many of the next 60 DAYS running at most it opens none; NONE: no such TRADE. */
    private static void out() {
        String two = "trade a 4 0;trade b 4 1;turn a;";
        CHECK.due("opens all", Check.of(two).out(0), 0);
        CHECK.due("opens none", Check.of(two).out(1), 60);
        CHECK.due("opens the first", Check.of(two + "claim b 0;").out(1), 59);
        CHECK.due("opens the last", Check.of(two + "claim b 59;").out(1), 59);
        CHECK.due("opens behind them", Check.of(two + "claim b 60;").out(1), 60);
        CHECK.due("the longer one first", Check.of(two + "claim b 31;").out(1), 31);
        CHECK.due("the longer one last", Check.of(two + "claim b 28;").out(1), 31);
        CHECK.due("of three", Check.of(two + "claim b 10;claim b 40;").out(1), 29);
        CHECK.due("one day", Check.of(two + "claim b 9;").out(0), 1);
        CHECK.due("two days running", Check.of(two + "claim b 9;claim b 10;claim b 12;").out(0), 2);
        DayOpeners x = Check.of(two + "claim b 60;");
        x.go(1);
        CHECK.due("the next 60 are others now", x.out(1), 59);
        CHECK.due("dark days, too", Check.of("trade a 4 0;").out(0), 60);
        CHECK.due("trade -1", x.out(-1), -1);
        CHECK.due("trade 2", x.out(2), -1);
        for (int no : FAR) {
            CHECK.due("out " + no, x.out(no), -1);
        }
    }

    /** Promise 21: n 0 .. 200; NONE: no such n. */
    private static void missing() {
        DayOpeners x = Check.of("trade a 4 0;turn a;law will date/2*2<>date;");
        CHECK.due("missing 0", x.missing(0), 0);
        CHECK.due("missing 1", x.missing(1), 1);
        CHECK.due("missing 2", x.missing(2), 1);
        CHECK.due("missing 199", x.missing(199), 100);
        CHECK.due("missing 200", x.missing(200), 100);
        CHECK.due("missing 201", x.missing(201), -1);
        CHECK.due("missing -1", x.missing(-1), -1);
        x.go(1);
        CHECK.due("of the days from this one on", x.missing(1), 0);
    }

    /** What is looked at ahead may be behind day 9800, whichever day it is now. */
    private static void lookBehindTheLastDay() {
        DayOpeners x = Check.of("trade a 4 0;trade b 4 0;turn a;work w 20 20 1;law will date>9990;law length date-9981;");
        for (int i = 0; i < 49; i++) {
            x.go(200);
        }
        CHECK.due("the last day", x.count(5), 9800);
        CHECK.due("dark", x.opener(190), -2);
        CHECK.due("opened", x.opener(191), 0);
        CHECK.due("long", x.longAt(191), 10);
        CHECK.due("soon", x.soon(0), 192);
        CHECK.due("out", x.out(0), 60);
        CHECK.due("missing", x.missing(200), 191);
        CHECK.due("ahead", x.ahead(200, 1, 0), 9);
        CHECK.due("not done by then", x.doneWhen(0), -2);
        CHECK.due("tried", x.tried(0, 0, 200), 0);
        CHECK.due("nothing is done by it", x.count(5), 9800);
    }

    /** Promise 42: what 0 .. 13; NONE for another what. */
    private static void count() {
        StringBuilder s = new StringBuilder(SIX);
        for (int i = 0; i < 12; i++) {
            s.append("turn ").append((char) ('a' + i % 6)).append(';');
        }
        for (int date = 0; date < 10; date++) {
            s.append("claim f ").append(50 + date).append(';');
        }
        for (int work = 0; work < 5; work++) {
            s.append("work ").append((char) ('a' + work)).append(" 0 24 ").append(work + 1).append(';');
        }
        DayOpeners x = Check.of(s + "law will 1" + Check.times(30, "+1") + ";law fame not 1;law length 1;");
        int[] want = {6, 12, 10, 5, 64, 0, 0, 0, 0, 0, 0, 0, 0, 0};
        for (int what = 0; what < 14; what++) {
            CHECK.due("count " + what, x.count(what), want[what]);
        }
        x.go(14);
        CHECK.due("the day", x.count(5), 14);
        CHECK.due("next", x.count(6), 2);
        CHECK.due("works done", x.count(7), 5);
        CHECK.due("count -1", x.count(-1), -1);
        CHECK.due("count 14", x.count(14), -1);
        for (int no : new int[] {15, 64, Integer.MAX_VALUE, Integer.MIN_VALUE}) {
            CHECK.due("count " + no, x.count(no), -1);
        }
        DayOpeners y = Check.of("trade a 0 0;trade b 0 0;trade c 0 0;turn a;turn b;turn c;law fame 9;");
        y.go(200);
        y.go(134);
        CHECK.due("known of all in sum", y.count(10), 2 * 999 + 999);
    }

    /** An object is used for at most 512 calls after it has been made. */
    private static void manyCalls() {
        DayOpeners x = new DayOpeners();
        for (int i = 0; i < 100; i++) {
            Check.feed(x, "trade a 4 0;turn a;");
            CHECK.due("lines", x.text(19), 2);
            x.appoint(0);
            CHECK.due("day", x.go(100), 100);
            CHECK.due("length", x.longAt(0), 20);
        }
        DayOpeners y = Check.of("trade a 4 0;trade b 4 0;turn a;turn b;");
        for (int i = 0; i < 505; i++) {
            CHECK.due("swap", y.swap(0, 1), true);
        }
        CHECK.due("behind many calls", y.place(0), 1);
    }

    public static void main(String[] args) {
        newObject();
        trade();
        place();
        work();
        law();
        length();
        ahead();
        openerAndLong();
        doneWhen();
        soon();
        out();
        missing();
        lookBehindTheLastDay();
        count();
        manyCalls();
        CHECK.ends();
    }
}
