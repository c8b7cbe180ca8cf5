/** Promises 22 and 23: plan and best. */
public final class PlansTest {
    private static final Check CHECK = new Check();
    private static final int[] NO_WHAT = {-1, 7, 8, Integer.MAX_VALUE, Integer.MIN_VALUE};
    // Days of 20, of 10 and of 4.
    private static final String TRADES = "trade a 4 0;trade b 14 0;trade c 20 0;";

    private static void plan(String text, long... want) {
        planOf(text, Check.of(text), want);
    }

    private static void planOf(String name, DayOpeners x, long... want) {
        long[] got = new long[7];
        for (int what = 0; what < 7; what++) {
            got[what] = x.plan(what);
        }
        CHECK.row("plan of " + name, got, want);
    }

    private static void plans() {
        plan(TRADES + "work u 20 20 2;work v 10 10 3;", 2, 3, 0, -2, -2, -2, 5);
        plan(TRADES + "work u 4 20 2;work v 4 10 2;", 0, 2, 0, -2, -2, -2, 2);
        plan(TRADES + "work u 4 4 1;work v 0 24 4;", 3, 0, 1, -2, -2, -2, 4);
        plan(TRADES + "work u 10 24 2;work v 0 10 2;work w 0 4 1;", 1, 1, 1, -2, -2, -2, 3);
        plan("trade a 4 0;trade b 4 0;work u 20 20 3;", 3, 0, -2, -2, -2, -2, 3);
        plan(TRADES + "work u 20 20 9;work v 10 10 3;", 9, 3, 0, -2, -2, -2, 12);
        plan(TRADES + "work u 20 20 9;work v 10 10 4;", -2, -2, -2, -2, -2, -2, -2);
        plan(TRADES + "work u 21 24 1;", -2, -2, -2, -2, -2, -2, -2);
        plan(TRADES + "work u 20 10 1;", -2, -2, -2, -2, -2, -2, -2);
        plan(TRADES, 0, 0, 0, -2, -2, -2, 0);
        plan("work u 0 24 1;", -2, -2, -2, -2, -2, -2, -2);
        plan("", -2, -2, -2, -2, -2, -2, 0);
        plan(TRADES + "trade d 19 0;trade e 19 0;trade f 19 0;work u 5 5 4;work v 4 5 6;", 0, 0, 2, 4, 0, 0, 6);
        // A length by law is the one it has now, whatever comes.
        plan(TRADES + "law length date+opened*24;work u 0 0 2;", 2, 0, 0, -2, -2, -2, 2);
        for (int no : NO_WHAT) {
            CHECK.due("plan " + no, Check.of(TRADES).plan(no), -1);
            CHECK.due("plan " + no + " not by 12", Check.of(TRADES + "work u 21 24 1;").plan(no), -1);
        }
    }

    private static void plansNow() {
        DayOpeners x = Check.of(TRADES + "turn a;turn b;work u 20 20 2;work v 10 10 3;law will date<2;");
        x.go(1);
        planOf("what went on", x, 1, 3, 0, -2, -2, -2, 4);
        x.go(1);
        x.appoint(2);
        planOf("what went on", x, 1, 2, 0, -2, -2, -2, 3);
        CHECK.due("nothing is done by planning", x.count(5), 2);
        DayOpeners y = Check.of("trade a 4 0;turn a;work u 20 24 1;law length 20+date;");
        y.go(5);
        planOf("all is done", y, 0, -2, -2, -2, -2, -2, 0);
        DayOpeners z = Check.of("trade a 4 0;turn a;work u 3 3 2;law length date;");
        planOf("no day of 3 now", z, -2, -2, -2, -2, -2, -2, -2);
        z.go(3);
        planOf("a day of 3 now", z, 2, -2, -2, -2, -2, -2, 2);
    }

    private static void bestOf(String name, DayOpeners x, int n, long... want) {
        long[] got = new long[7];
        for (int what = 0; what < 7; what++) {
            got[what] = x.best(n, what);
        }
        CHECK.row("best of " + n + " for " + name, got, want);
    }

    private static void bests() {
        DayOpeners x = Check.of(TRADES + "turn a;work u 20 20 1;work v 10 10 1;work w 4 4 1;claim a 1;law will 0;");
        bestOf("three", x, 1, 0, -2, -2, -2, -2, -2, 1);
        bestOf("three", x, 2, 0, 1, -2, -2, -2, -2, 2);
        bestOf("three", x, 3, 0, 1, 2, -2, -2, -2, 3);
        bestOf("three", x, 4, 0, 0, 1, 2, -2, -2, 3);
        bestOf("three", x, 6, 0, 0, 0, 0, 1, 2, 3);
        x.appoint(2);
        bestOf("three, in place of who is appointed", x, 2, 0, 1, -2, -2, -2, -2, 2);
        CHECK.due("nothing is done by looking", x.opener(0), 2);
        x.go(1);
        bestOf("what is done", x, 1, 0, -2, -2, -2, -2, -2, 2);
        bestOf("what is done", x, 2, 0, 1, -2, -2, -2, -2, 3);
        DayOpeners y = Check.of("trade a 0 1;trade b 0 2;law length manner*(date+1);work u 2 2 2;");
        bestOf("b, then a", y, 1, 0, -2, -2, -2, -2, -2, 0);
        bestOf("b, then a", y, 2, 1, 0, -2, -2, -2, -2, 1);
        bestOf("b, then a", y, 3, 1, 0, 0, -2, -2, -2, 1);
        bestOf("b, then a, too few days", y, 1, 0, -2, -2, -2, -2, -2, 0);
        DayOpeners z = Check.of("trade a 0 0;trade b 0 0;law length opened*10;law fame 9;work u 10 10 2;work v 20 20 1;");
        bestOf("opened", z, 2, 0, 0, -2, -2, -2, -2, 0);
        bestOf("opened", z, 3, 0, 0, 0, -2, -2, -2, 1);
        bestOf("opened", z, 4, 0, 0, 0, 0, -2, -2, 1);
        bestOf("opened", z, 5, 0, 0, 0, 1, 1, -2, 2);
        DayOpeners k = Check.of("trade a 0 0;trade b 0 0;law length known;law fame 4+date;work u 0 0 1;work v 4 4 1;work w 9 9 1;");
        bestOf("known", k, 3, 0, 0, 0, -2, -2, -2, 3);
        DayOpeners six = Check.of(TRADES + "trade d 1 0;trade e 2 0;trade f 3 0;work u 21 21 2;work v 22 22 2;work w 23 23 2;");
        bestOf("six", six, 5, 0, 3, 3, 4, 4, -2, 2);
        bestOf("six", six, 6, 3, 3, 4, 4, 5, 5, 3);
        bestOf("no works", Check.of(TRADES), 2, 0, 0, -2, -2, -2, -2, 0);
        bestOf("one trade", Check.of("trade a 0 0;work w 24 24 2;"), 2, 0, 0, -2, -2, -2, -2, 1);
        bestOf("no trades", Check.of("work w 24 24 2;"), 2, -2, -2, -2, -2, -2, -2, -2);
        for (int no : NO_WHAT) {
            CHECK.due("best what " + no, x.best(1, no), -1);
            CHECK.due("best of " + no, x.best(no, 0), -1);
            CHECK.due("best what " + no + " without trades", new DayOpeners().best(1, no), -1);
        }
        CHECK.due("best of 0", x.best(0, 6), -1);
        CHECK.due("best of 0 without trades", new DayOpeners().best(0, 6), -1);
    }

    public static void main(String[] args) {
        plans();
        plansNow();
        bests();
        CHECK.ends();
    }
}
