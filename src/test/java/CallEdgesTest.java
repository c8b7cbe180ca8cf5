/** Promises 11 to 14 and 39 to 41: each sentence that names an edge has a method of its own. */
public final class CallEdgesTest {
    private static final Check CHECK = new Check();
    private static final int[] FAR = {-1, 12, 24, 31, 32, 33, 64, 201, Integer.MAX_VALUE, Integer.MIN_VALUE};
    private static final String SIX = "trade a 0 0;trade b 1 1;trade c 2 2;trade d 3 3;trade e 4 4;trade f 5 5;";
    private static final String TWO = "trade a 4 0;trade b 14 1;turn a;turn b;";

    /** Promise 11: APPOINTED for this DAY (in place of one ahead): true; false: no such TRADE. */
    private static void appoint() {
        DayOpeners x = Check.of(SIX + "turn a;");
        for (int trade = 0; trade < 6; trade++) {
            CHECK.due("appoint " + trade, x.appoint(trade), true);
            CHECK.due("in place of one ahead", x.opener(0), trade);
        }
        CHECK.due("appoint 6", x.appoint(6), false);
        CHECK.due("appoint -1", x.appoint(-1), false);
        for (int no : FAR) {
            CHECK.due("appoint " + no, x.appoint(no), false);
        }
        CHECK.due("f still", x.opener(0), 5);
        CHECK.due("f again", x.appoint(5), true);
        CHECK.due("each can be undone", x.count(13), 7);
        x.go(1);
        CHECK.due("f opened", x.trade(5, 3), 1);
        CHECK.due("nobody is appointed then", x.opener(0), 0);
        CHECK.due("no trades", new DayOpeners().appoint(0), false);
    }

    /** Promise 12: who had it; NONE: no such ones. */
    private static void put() {
        DayOpeners x = Check.of(SIX + Check.times(11, "turn a;") + "turn e;");
        CHECK.due("place 11 to f", x.put(11, 5), 4);
        CHECK.due("place 11", x.place(11), 5);
        CHECK.due("place 11 to a", x.put(11, 0), 5);
        CHECK.due("place 0 to f", x.put(0, 5), 0);
        CHECK.due("place 12", x.put(12, 0), -1);
        CHECK.due("place -1", x.put(-1, 0), -1);
        CHECK.due("trade 6", x.put(0, 6), -1);
        CHECK.due("trade -1", x.put(0, -1), -1);
        for (int no : FAR) {
            CHECK.due("place " + no, x.put(no, 0), -1);
            CHECK.due("trade " + no, x.put(0, no), -1);
            CHECK.due("both " + no, x.put(no, no), -1);
        }
        CHECK.due("nothing to undo by those", x.count(13), 3);
        CHECK.due("the places stay", x.count(1), 12);
        CHECK.due("no list", Check.of(SIX).put(0, 0), -1);
        CHECK.due("no trades", new DayOpeners().put(0, 0), -1);
    }

    /** Promise 13: false: no such PLACES, alike, of one TRADE. */
    private static void swap() {
        DayOpeners x = Check.of(SIX + "turn f;" + Check.times(10, "turn a;") + "turn e;");
        CHECK.due("the first and the last", x.swap(0, 11), true);
        CHECK.due("the first", x.place(0), 4);
        CHECK.due("the last", x.place(11), 5);
        CHECK.due("the last and the first", x.swap(11, 0), true);
        CHECK.due("the first", x.place(0), 5);
        CHECK.due("the last", x.place(11), 4);
        CHECK.due("alike", x.swap(11, 11), false);
        CHECK.due("of one trade", x.swap(1, 10), false);
        CHECK.due("0 and 12", x.swap(0, 12), false);
        CHECK.due("12 and 0", x.swap(12, 0), false);
        CHECK.due("-1 and 0", x.swap(-1, 0), false);
        CHECK.due("0 and -1", x.swap(0, -1), false);
        for (int no : FAR) {
            CHECK.due("0 and " + no, x.swap(0, no), false);
            CHECK.due(no + " and 0", x.swap(no, 0), false);
            CHECK.due(no + " and itself", x.swap(no, no), false);
        }
        CHECK.due("nothing to undo by those", x.count(13), 2);
        CHECK.due("no list", Check.of(SIX).swap(0, 1), false);
        DayOpeners short2 = Check.of(TWO);
        CHECK.due("behind the last one", short2.swap(1, 2), false);
        CHECK.due("the two", short2.swap(1, 0), true);
    }

    /** Promise 14: DAYS (0 .. 200); NONE, and none does: no such number. */
    private static void goOfNone() {
        DayOpeners x = Check.of(TWO);
        CHECK.due("go 0", x.go(0), 0);
        CHECK.due("go 200", x.go(200), 200);
        CHECK.due("go 201", x.go(201), -1);
        CHECK.due("go -1", x.go(-1), -1);
        for (int no : new int[] {202, 9800, 9801, Integer.MAX_VALUE, Integer.MIN_VALUE}) {
            CHECK.due("go " + no, x.go(no), -1);
        }
        CHECK.due("none did", x.count(5), 200);
        CHECK.due("none was opened", x.trade(0, 3), 100);
        CHECK.due("go 1", x.go(1), 201);
    }

    /** Promise 14: NONE, and none does: behind 9800. */
    private static void goBehind() {
        DayOpeners x = Check.of(TWO);
        for (int day = 200; day <= 9600; day += 200) {
            CHECK.due("go to " + day, x.go(200), day);
        }
        CHECK.due("go to 9799", x.go(199), 9799);
        x.appoint(1);
        CHECK.due("two days too many", x.go(200), -1);
        CHECK.due("one day too many", x.go(2), -1);
        CHECK.due("none did", x.count(5), 9799);
        CHECK.due("who is appointed still is", x.opener(0), 1);
        CHECK.due("it can be undone still", x.count(13), 1);
        CHECK.due("the last one", x.go(1), 9800);
        CHECK.due("behind it", x.go(1), -1);
        CHECK.due("none", x.go(0), 9800);
        CHECK.due("none did", x.count(5), 9800);
        CHECK.due("a text begins anew", Check.tell(x, TWO), 4);
        CHECK.due("and goes", x.go(200), 200);
    }

    /** Appointing, putting (to who has it, too), swapping by call can be undone. */
    private static void undoOfEach() {
        DayOpeners x = Check.of(TWO);
        CHECK.due("nothing yet", x.undo(), -1);
        x.appoint(1);
        CHECK.due("an appointing", x.undo(), 0);
        CHECK.due("nobody is appointed", x.opener(0), 0);
        x.appoint(1);
        x.appoint(0);
        CHECK.due("the later appointing", x.undo(), 1);
        CHECK.due("b is appointed", x.opener(0), 1);
        CHECK.due("the earlier appointing", x.undo(), 0);
        x.put(0, 1);
        CHECK.due("a putting", x.undo(), 0);
        CHECK.due("a has it", x.place(0), 0);
        x.put(0, 0);
        CHECK.due("a putting to who has it", x.count(13), 1);
        CHECK.due("a putting to who has it", x.undo(), 0);
        CHECK.due("a has it", x.place(0), 0);
        x.swap(0, 1);
        CHECK.due("a swapping", x.undo(), 0);
        CHECK.due("a has it", x.place(0), 0);
        CHECK.due("b has it", x.place(1), 1);
        x.appoint(1);
        x.appoint(1);
        CHECK.due("appointing who is", x.undo(), 1);
        CHECK.due("b is still", x.opener(0), 1);
        x.appoint(6);
        x.put(0, 6);
        x.put(6, 0);
        x.swap(0, 0);
        x.swap(0, 6);
        CHECK.due("what answers none can't", x.undo(), 0);
        CHECK.due("nothing is left", x.undo(), -1);
    }

    /** The latest first (20 at most). */
    private static void undoOfMany() {
        for (int calls : new int[] {19, 20, 21, 40, 61}) {
            DayOpeners x = Check.of(SIX + Check.times(12, "turn a;"));
            for (int i = 0; i < calls; i++) {
                x.put(i % 12, 1 + i % 5);
                CHECK.due("what can be undone", x.count(13), Math.min(i + 1, 20));
            }
            int least = Math.max(0, calls - 20);
            for (int i = calls - 1; i >= least; i--) {
                int place = i % 12;
                CHECK.due("put by call " + i, x.place(place), 1 + i % 5);
                CHECK.due("undone", x.undo(), i - least);
                CHECK.due("as ahead of call " + i, x.place(place), i < 12 ? 0 : 1 + (i - 12) % 5);
            }
            CHECK.due("none is left", x.undo(), -1);
            CHECK.due("the day stays", x.count(5), 0);
            if (least > 0) {
                CHECK.due("the oldest stays", x.place((least - 1) % 12), 1 + (least - 1) % 5);
            }
        }
    }

    /** The LIST, who is APPOINTED: all twelve places and who is appointed are as ahead of the call. */
    private static void undoOfTwelve() {
        DayOpeners x = Check.of(SIX + Check.times(2, "turn a;turn b;turn c;turn d;turn e;turn f;"));
        int[] list = new int[12];
        int[][] lists = new int[10][];
        int[] appointed = new int[11];
        for (int place = 0; place < 12; place++) {
            list[place] = place % 6;
        }
        for (int i = 0; i < 10; i++) {
            lists[i] = list.clone();
            appointed[i + 1] = i % 3 == 0 ? 1 + i % 5 : appointed[i];
            if (i % 3 == 0) {
                x.appoint(1 + i % 5);
            } else if (i % 3 == 1) {
                x.put(11, i % 6);
                list[11] = i % 6;
            } else {
                x.swap(i - 2, i - 1);
                list[i - 2] = lists[i][i - 1];
                list[i - 1] = lists[i][i - 2];
            }
        }
        for (int i = 9; i >= 0; i--) {
            CHECK.due("undo of call " + i, x.undo(), i);
            for (int place = 0; place < 12; place++) {
                CHECK.due("place " + place + " as ahead of call " + i, x.place(place), lists[i][place]);
            }
            CHECK.due("who is appointed as ahead of call " + i, x.opener(0), appointed[i]);
        }
    }

    /** If no DAY went by since. */
    private static void undoBehindADay() {
        DayOpeners x = Check.of(TWO);
        x.appoint(1);
        x.put(0, 1);
        CHECK.due("no day", x.go(0), 0);
        CHECK.due("not such days", x.go(201), -1);
        CHECK.due("both are left", x.count(13), 2);
        CHECK.due("a day", x.go(1), 1);
        CHECK.due("none is left", x.count(13), 0);
        CHECK.due("none is undone", x.undo(), -1);
        CHECK.due("what was put stays", x.place(0), 1);
        x.put(1, 0);
        x.go(1);
        x.put(0, 0);
        CHECK.due("the one since", x.undo(), 0);
        CHECK.due("none ahead of the day", x.undo(), -1);
        CHECK.due("what was put stays", x.place(1), 0);
        x.put(0, 0);
        x.ahead(200, 0, 0);
        x.best(2, 6);
        x.chance(1, 9, 0);
        x.tried(1, 0, 9);
        x.hours(0);
        x.keep();
        Check.tell(x, "!");
        CHECK.due("looking ahead, keeping, a fault let no day go by", x.undo(), 0);
    }

    /** Promise 41: NONE: there is none; promise 3: no IMAGE then. */
    private static void backOfNone() {
        DayOpeners x = Check.of(TWO);
        CHECK.due("none", x.back(), -1);
        x.appoint(1);
        CHECK.due("none still", x.back(), -1);
        CHECK.due("nothing is lost by it", x.count(13), 1);
        CHECK.due("kept", x.keep(), 0);
        CHECK.due("back", x.back(), 0);
        Check.tell(x, "slip 101;");
        CHECK.due("a fault leaves it", x.back(), 0);
        Check.tell(x, TWO);
        CHECK.due("a text loses it", x.back(), -1);
        CHECK.due("kept", x.keep(), 0);
        x.text(0);
        CHECK.due("a text without lines loses it", x.back(), -1);
    }

    /** Promise 40: an IMAGE is kept (in place of one ahead): which DAY it is. */
    private static void keep() {
        DayOpeners x = Check.of(TWO);
        CHECK.due("day 0", x.keep(), 0);
        x.go(200);
        CHECK.due("day 200", x.keep(), 200);
        x.go(3);
        CHECK.due("back to 200", x.back(), 200);
        CHECK.due("and again", x.back(), 200);
        x.go(1);
        CHECK.due("day 201", x.keep(), 201);
        CHECK.due("back to 201", x.back(), 201);
    }

    /** An IMAGE keeps all but NOTES, the TAPE and the FAULT. */
    private static void imageKeeps() {
        DayOpeners x = Check.of("trade a 4 0;trade b 14 1;trade c 9 2;turn a;turn b;turn c;work v 0 24 9;work w 10 10 2;slip 40;"
            + "seed 1;law fame last-10;law length last+5;law will date<>4;");
        x.go(5);
        x.appoint(2);
        x.put(2, 0);
        x.swap(0, 1);
        x.keep();
        long[] ahead = answers(x);
        x.go(9);
        x.put(0, 2);
        x.put(1, 2);
        x.appoint(0);
        x.note(1, 1, true);
        x.strike(0);
        Check.tell(x, "slip");
        Check.feed(x, "slip 1;");
        x.back();
        long[] then = answers(x);
        for (int i = 0; i < ahead.length; i++) {
            CHECK.due("as it was, answer " + i, then[i], ahead[i]);
        }
        CHECK.due("notes stay", x.count(11), 2);
        CHECK.due("the fault stays", x.fault(0), 1);
        CHECK.due("its place stays", x.fault(1), 4);
        CHECK.due("nothing to undo", x.undo(), -1);
        x.go(9);
        long[] drawn = answers(x);
        x.back();
        x.go(9);
        long[] again = answers(x);
        for (int i = 0; i < drawn.length; i++) {
            CHECK.due("the same numbers again, answer " + i, again[i], drawn[i]);
        }
        CHECK.due("the tape stays", x.text(20), 1);
    }

    private static long[] answers(DayOpeners x) {
        long[] all = new long[40];
        for (int what = 0; what < 11; what++) {
            all[what] = x.count(what);
        }
        for (int trade = 0; trade < 3; trade++) {
            for (int what = 0; what < 5; what++) {
                all[11 + trade * 5 + what] = x.trade(trade, what);
            }
            all[26 + trade] = x.place(trade);
            all[29 + trade] = x.law(1, trade);
            all[32 + trade] = x.opener(trade);
        }
        all[35] = x.work(0, 3);
        all[36] = x.work(1, 3);
        all[37] = x.ahead(20, 4, 0);
        all[38] = x.chance(5, 3, 1);
        all[39] = x.plan(6);
        return all;
    }

    /** Promise 41: nothing to undo then. */
    private static void backLeavesNothingToUndo() {
        DayOpeners x = Check.of(TWO);
        x.appoint(1);
        x.keep();
        CHECK.due("keeping leaves it", x.count(13), 1);
        x.put(0, 1);
        x.back();
        CHECK.due("nothing to undo", x.count(13), 0);
        CHECK.due("nothing is undone", x.undo(), -1);
        CHECK.due("b is appointed", x.opener(0), 1);
        CHECK.due("a has its place", x.place(0), 0);
        x.put(0, 1);
        CHECK.due("what is put then", x.undo(), 0);
        CHECK.due("a has its place", x.place(0), 0);
    }

    public static void main(String[] args) {
        appoint();
        put();
        swap();
        goOfNone();
        goBehind();
        undoOfEach();
        undoOfMany();
        undoOfTwelve();
        undoBehindADay();
        backOfNone();
        keep();
        imageKeeps();
        backLeavesNothingToUndo();
        CHECK.ends();
    }
}
