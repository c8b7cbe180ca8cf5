/** Promises 6 to 10 and 42: what stands now: trade, place, work, law, length, count. */
public final class TellsTest {
    private static final Check CHECK = new Check();
    private static final int[] NO_INDEX = {-1, 6, 7, 64, Integer.MAX_VALUE, Integer.MIN_VALUE};

    private static void trades() {
        DayOpeners x = Check.of("trade a 5 3;trade b 23 9;trade c 0 0;turn a;turn b;turn a;law fame 9;");
        CHECK.due("hour", x.trade(1, 0), 23);
        CHECK.due("manner", x.trade(1, 1), 9);
        CHECK.due("places of a", x.trade(0, 4), 2);
        CHECK.due("places of c", x.trade(2, 4), 0);
        x.go(3);
        CHECK.due("known of a", x.trade(0, 2), 18);
        CHECK.due("opened of a", x.trade(0, 3), 2);
        CHECK.due("opened of b", x.trade(1, 3), 1);
        CHECK.due("known of c", x.trade(2, 2), 0);
        x.put(0, 2);
        CHECK.due("places of a by call", x.trade(0, 4), 1);
        CHECK.due("places of c by call", x.trade(2, 4), 1);
        for (int no : NO_INDEX) {
            CHECK.due("no trade " + no, Check.thrownBy(x, no, 0), 1);
            CHECK.due("no trade " + no + " and no such what", Check.thrownBy(x, no, 9), 1);
        }
        CHECK.due("no trade 3", Check.thrownBy(x, 3, 0), 1);
        for (int no : new int[] {-1, 5, 6, Integer.MAX_VALUE, Integer.MIN_VALUE}) {
            CHECK.due("no such what " + no, Check.thrownBy(x, 2, no), 2);
        }
        for (int what = 0; what < 5; what++) {
            CHECK.due("what " + what + " answers", Check.thrownBy(x, 0, what), 0);
        }
        CHECK.due("a new object has no trade", Check.thrownBy(new DayOpeners(), 0, 0), 1);
    }

    private static void places() {
        DayOpeners x = Check.of("trade a 5 3;trade b 23 9;turn b;turn a;turn b;");
        CHECK.due("place 0", x.place(0), 1);
        CHECK.due("place 1", x.place(1), 0);
        CHECK.due("place 2", x.place(2), 1);
        CHECK.due("place 3", x.place(3), -1);
        CHECK.due("place 12", x.place(12), -1);
        for (int no : NO_INDEX) {
            CHECK.due("no place " + no, x.place(no), -1);
        }
        x.swap(0, 1);
        CHECK.due("place 0 now", x.place(0), 0);
    }

    private static void works() {
        DayOpeners x = Check.of("trade a 5 3;turn a;work w 10 24 3;work v 0 19 1;work u 19 19 9;");
        for (int what = 0; what < 4; what++) {
            CHECK.due("work 0 what " + what, x.work(0, what), new int[] {10, 24, 3, 0}[what]);
            CHECK.due("work 2 what " + what, x.work(2, what), new int[] {19, 19, 9, 0}[what]);
        }
        x.go(5);
        CHECK.due("went on till done", x.work(0, 3), 3);
        CHECK.due("done at once, no more then", x.work(1, 3), 1);
        CHECK.due("went on, not done", x.work(2, 3), 5);
        CHECK.due("no such what", x.work(0, 4), -1);
        CHECK.due("no such what", x.work(0, -1), -1);
        CHECK.due("no such work", x.work(3, 0), -1);
        for (int no : NO_INDEX) {
            CHECK.due("no work " + no, x.work(no, 0), -1);
        }
    }

    private static void formula(String e, long want) {
        DayOpeners x = Check.of("trade a 7 3;trade b 23 0;turn a;work w 0 0 1;work v 17 17 1;law length " + e + ";");
        CHECK.due("law of " + e, x.law(0, 0), want);
    }

    private static void formulas() {
        long error = Long.MIN_VALUE;
        formula("1+2*3", 7);
        formula("(1+2)*3", 9);
        formula("7-2-1", 4);
        formula("7-(2-1)", 6);
        formula("9/2", 4);
        formula("(0-9)/2", -4);
        formula("9/(0-2)", -4);
        formula("100/7/2", 7);
        formula("2*3/4*5", 5);
        formula("3/4*4", 0);
        formula("not 0", 1);
        formula("not 5", 0);
        formula("not not 5", 1);
        formula("not 1=2", 1);
        formula("(not 1)=2", 0);
        formula("not 1 or 1", 1);
        formula("not 0 and 0", 0);
        formula("1 or 0 and 0", 1);
        formula("(1 or 0) and 0", 0);
        formula("3 and 2", 1);
        formula("3 or 2", 1);
        formula("0 or 0-1", 1);
        formula("1<2 and 2<1 or 3>2", 1);
        formula("1+1=2", 1);
        formula("2=1+1", 1);
        formula("1<1", 0);
        formula("1<=1", 1);
        formula("2<=1", 0);
        formula("1=2", 0);
        formula("1<>2", 1);
        formula("1<>1", 0);
        formula("1>=1", 1);
        formula("0>=1", 0);
        formula("1>1", 0);
        formula("2>1", 1);
        formula("0-5<0-4", 1);
        formula("1/0", error);
        formula("0/0", error);
        formula("1 or 1/0", error);
        formula("0 and 1/0", error);
        formula("1/0*0", error);
        formula("(0-1)/(1-1)", error);
        formula("1000*1000*1000*1000", 1000000000000L);
        formula("1000*1000*1000*1000+1", error);
        formula("1000*1000*1000*1000+1-1", error);
        formula("0-1000*1000*1000*1000", -1000000000000L);
        formula("0-1000*1000*1000*1000-1", error);
        formula("(1000*1000*1000+1)*1000", error);
        formula("1000*1000*1000*1000*1000*1000*1000*1000", error);
        formula("(1000*1000*1000*1000)*(0-1000*1000*1000*1000)", error);
        formula("(0-1000*1000*1000)*1000", -1000000000000L);
        formula("(0-1000*1000*1000)*(0-1000)", 1000000000000L);
        formula("(0-1000*1000*1000-1)*1000", error);
        formula("0*(1000*1000*1000*1000)", 0);
        formula("9999*9999*9999", 999700029999L);
        formula("hour", 7);
        formula("manner", 3);
        formula("known+opened+last+date", 0);
        formula("left", 2);
        formula("((((((((hour))))))))", 7);
    }

    private static void laws() {
        DayOpeners x = Check.of("trade a 7 3;trade b 23 0;turn a;work w 0 0 1;work v 17 17 1;law fame date+4;"
            + "law will hour*1000*100+manner*1000*10+known*1000+opened*100+left*10+last;");
        CHECK.due("names at first", x.law(2, 0), 730020);
        CHECK.due("names of another trade", x.law(2, 1), 2300020);
        CHECK.due("date at first", x.law(1, 1), 4);
        x.go(1);
        CHECK.due("names behind a day", x.law(2, 0), 730000 + 4000 + 100 + 10 + 17);
        CHECK.due("names of another trade behind a day", x.law(2, 1), 2300000 + 10 + 17);
        CHECK.due("date behind a day", x.law(1, 0), 5);
        x.go(2);
        CHECK.due("date behind three days", x.law(1, 0), 7);
        CHECK.due("a law that isn't told", x.law(0, 0), Long.MIN_VALUE);
        for (int no : new int[] {-1, 3, 4, Integer.MAX_VALUE, Integer.MIN_VALUE}) {
            CHECK.due("no such law " + no, x.law(no, 0), Long.MIN_VALUE);
        }
        CHECK.due("no trade 2", x.law(2, 2), Long.MIN_VALUE);
        for (int no : NO_INDEX) {
            CHECK.due("law: no trade " + no, x.law(2, no), Long.MIN_VALUE);
        }
        // A number of 10 to the 12 below 0 is an answer like others.
        CHECK.due("what isn't bounded", Check.of("trade a 1 1;law length 0-9;").law(0, 0), -9);
    }

    private static int lengthBy(String law) {
        return Check.of("trade a 7 3;trade b 20 0;turn a;" + law).length(0);
    }

    private static void lengths() {
        CHECK.due("length without a law", lengthBy(""), 17);
        CHECK.due("length by law", lengthBy("law length 5;"), 5);
        CHECK.due("length at most", lengthBy("law length 25;"), 24);
        CHECK.due("length far above", lengthBy("law length 9999*9999*9999;"), 24);
        CHECK.due("length at least", lengthBy("law length 0-1;"), 0);
        CHECK.due("length far below", lengthBy("law length 0-9999*9999*9999;"), 0);
        CHECK.due("length with an error", lengthBy("law length 1/0;"), 17);
        DayOpeners x = Check.of("trade a 7 3;trade b 20 0;turn a;law length opened+hour/2;");
        CHECK.due("length of b", x.length(1), 10);
        x.go(2);
        CHECK.due("length now", x.length(0), 5);
        CHECK.due("no trade 2", x.length(2), -1);
        for (int no : NO_INDEX) {
            CHECK.due("length: no trade " + no, x.length(no), -1);
        }
    }

    private static void counts() {
        DayOpeners x = Check.of("trade a 0 3;trade b 12 0;trade c 3 3;turn a;turn b;claim b 0;claim c 7;work w 24 24 1;"
            + "work v 1 2 9;work u 12 24 2;slip 100;law will manner;law fame 3+1;");
        long[] first = {3, 2, 2, 3, 4, 0, 0, 0, 0, 0, 0, 0, 0, 0};
        for (int what = 0; what < first.length; what++) {
            CHECK.due("count " + what + " at first", x.count(what), first[what]);
        }
        // b by its claim, then a by mistakes and by will; its law refuses b.
        x.go(3);
        x.note(1, 1, true);
        x.note(1, 1, true);
        x.strike(0);
        x.appoint(0);
        x.put(1, 1);
        long[] then = {3, 2, 2, 3, 4, 3, 1, 2, 2, 0, 12, 3, 3, 2};
        for (int what = 0; what < then.length; what++) {
            CHECK.due("count " + what + " then", x.count(what), then[what]);
        }
        x.toldBy(1);
        CHECK.due("told by one", x.count(12), 1);
        x.toldBy(0);
        CHECK.due("told by none", x.count(12), 0);
        x.toldBy(-1);
        CHECK.due("told by all", x.count(12), 3);
        x.note(1, 1, true);
        CHECK.due("told by all, also those to come", x.count(12), 4);
        for (int no : new int[] {-1, 14, 15, Integer.MAX_VALUE, Integer.MIN_VALUE}) {
            CHECK.due("count " + no, x.count(no), -1);
        }
        DayOpeners y = Check.of("trade a 0 0;turn a;law will 0;");
        y.go(4);
        CHECK.due("days dark so far", y.count(9), 4);
    }

    public static void main(String[] args) {
        trades();
        places();
        works();
        formulas();
        laws();
        lengths();
        counts();
        CHECK.ends();
    }
}
