/** Promises 24 to 30: fair, pairs, power, even, rare, rests, rest. */
public final class SeatsTest {
    private static final Check CHECK = new Check();
    private static final int[] NO_INDEX = {-1, 12, 13, 64, Integer.MAX_VALUE, Integer.MIN_VALUE};

    private static void fairs(String text, int pairs, long... want) {
        DayOpeners x = Check.of(text);
        long[] got = new long[x.count(1)];
        for (int place = 0; place < got.length; place++) {
            got[place] = x.fair(place);
        }
        CHECK.row("fair of " + text, got, want);
        CHECK.due("pairs of " + text, x.pairs(), pairs);
        CHECK.due("fair: no place behind the last one", x.fair(got.length), -1);
        for (int no : NO_INDEX) {
            CHECK.due("fair of place " + no, x.fair(no), -1);
        }
    }

    private static void fairAndPairs() {
        fairs("", 0);
        fairs("trade a 0 9;turn a;", 0, 0);
        fairs("trade a 0 1;trade b 0 0;turn a;turn b;", 1, 1, 0);
        fairs("trade a 0 0;trade b 0 1;turn a;turn b;", 0, 0, 1);
        fairs("trade a 0 2;trade b 0 0;trade c 0 9;turn a;turn b;turn a;turn c;", 1, 1, 0, 0, 2);
        fairs("trade a 0 2;trade b 0 1;turn a;turn b;turn b;", 0, 1, 1, 0);
        fairs("trade a 0 1;trade b 0 0;turn a;turn a;turn b;", 0, 0, 0, 1);
        // A ring of three that no pair would close.
        fairs("trade a 0 1;trade b 0 2;trade c 0 0;turn a;turn b;turn c;", 1, 2, 0, 1);
        // Two want the first place; the nearest of several is the first one.
        fairs("trade a 0 0;trade b 0 1;turn b;turn b;turn a;turn a;", 0, 1, 1, 0, 0);
        fairs("trade a 0 9;trade b 0 0;trade c 0 5;turn a;turn a;turn c;turn b;turn c;turn b;turn a;", 7,
            1, 1, 2, 0, 2, 0, 0);
    }

    private static void seatsNow() {
        DayOpeners x = Check.of("trade a 0 1;trade b 0 0;turn a;turn b;");
        x.swap(0, 1);
        CHECK.due("fair now", x.fair(0), 1);
        CHECK.due("pairs now", x.pairs(), 0);
        CHECK.due("the list stays", x.place(0), 1);
    }

    private static void powers(String text, long... want) {
        DayOpeners x = Check.of(text);
        long[] got = new long[x.count(0)];
        for (int trade = 0; trade < got.length; trade++) {
            got[trade] = x.power(trade);
        }
        CHECK.row("power of " + text, got, want);
        CHECK.due("power: no trade behind the last one", x.power(got.length), -1);
    }

    private static void power() {
        String four = "trade a 0 0;trade b 0 0;trade c 0 0;trade d 0 0;";
        powers(four, 0, 0, 0, 0);
        powers(four + "turn a;", 8, 0, 0, 0);
        powers(four + "turn a;turn b;", 4, 4, 0, 0);
        powers(four + "turn a;turn b;turn a;turn b;turn c;", 4, 4, 4, 0);
        powers(four + "turn a;turn b;turn a;turn c;", 6, 2, 2, 0);
        powers(four + "turn a;turn b;turn c;turn d;", 3, 3, 3, 3);
        powers("");
        DayOpeners x = Check.of(four + "turn a;turn b;turn c;");
        x.put(1, 0);
        CHECK.due("power now", x.power(0), 8);
        for (int no : NO_INDEX) {
            CHECK.due("power of " + no, x.power(no), -1);
        }
    }

    private static void even() {
        DayOpeners x = Check.of("trade a 0 0;trade b 0 0;trade c 0 0;trade d 0 0;turn a;turn b;turn a;turn b;turn c;turn a;");
        CHECK.due("none", x.even(0), 1);
        CHECK.due("a", x.even(1), 0);
        CHECK.due("b", x.even(2), 0);
        CHECK.due("a and b", x.even(3), 0);
        CHECK.due("b and c", x.even(6), 0);
        CHECK.due("a, b and c", x.even(7), 1);
        CHECK.due("d, who has none", x.even(8), 1);
        CHECK.due("c and d", x.even(12), 0);
        CHECK.due("all", x.even(15), 1);
        CHECK.due("no such trades", x.even(16), -1);
        CHECK.due("no such trades", x.even(17), -1);
        for (int no : new int[] {-1, -16, 64, Integer.MAX_VALUE, Integer.MIN_VALUE}) {
            CHECK.due("even of " + no, x.even(no), -1);
        }
        x.put(0, 1);
        CHECK.due("a and b now", x.even(3), 0);
        CHECK.due("a, b and c now", x.even(7), 1);
        x.put(4, 0);
        CHECK.due("a and b now", x.even(3), 1);
        x = Check.of("trade a 0 0;");
        CHECK.due("without a list", x.even(1), 1);
        CHECK.due("without a list, none", x.even(0), 1);
    }

    private static void rare() {
        DayOpeners x = Check.of("trade a 0 0;trade b 0 0;trade c 0 0;trade d 0 0;turn c;turn b;turn a;");
        CHECK.due("the first of several", x.rare(), 0);
        x.go(1);
        CHECK.due("c opened", x.rare(), 0);
        x.go(2);
        CHECK.due("all opened once", x.rare(), 0);
        x.appoint(0);
        x.go(1);
        CHECK.due("a opened twice", x.rare(), 1);
        x.put(1, 3);
        CHECK.due("d, by call", x.rare(), 3);
        x.put(1, 0);
        CHECK.due("of those with a place", x.rare(), 2);
        CHECK.due("none with a place", Check.of("trade a 0 0;").rare(), -2);
        CHECK.due("no trades", new DayOpeners().rare(), -2);
    }

    private static void rests(String name, DayOpeners x, long... want) {
        CHECK.due("rests of " + name, x.rests(0, 1), want.length);
        for (int k = 0; k < want.length; k++) {
            CHECK.due("rest " + k + " of " + name, x.rest(0, 1, k), want[k]);
            // The other way round both numbers change places.
            int back = 0;
            for (long other : want) {
                back += other % 10 * 10 + other / 10 < want[k] % 10 * 10 + want[k] / 10 ? 1 : 0;
            }
            CHECK.due("rest " + back + " the other way of " + name, x.rest(1, 0, back), want[k] % 10 * 10 + want[k] / 10);
        }
        CHECK.due("no more of " + name, x.rest(0, 1, want.length), -2);
        CHECK.due("far more of " + name, x.rest(0, 1, Integer.MAX_VALUE), -2);
    }

    private static void restsOf(String text, long... want) {
        rests(text, Check.of(text), want);
    }

    private static void rests() {
        restsOf("trade a 0 5;trade b 9 4;", 1, 10);
        restsOf("trade a 0 9;trade b 1 8;", 0);
        restsOf("trade a 0 0;trade b 12 0;", 11);
        restsOf("trade a 0 2;trade b 6 0;", 1);
        restsOf("trade a 6 0;trade b 0 2;", 10);
        restsOf("trade a 0 3;trade b 5 3;", 0, 1, 10);
        restsOf("trade a 5 3;trade b 0 3;", 0, 1, 10);
        restsOf("trade a 0 3;trade b 6 3;", 1, 10);
        restsOf("trade a 0 1;trade b 6 1;", 1, 10, 11);
        restsOf("trade a 3 4;trade b 5 1;", 1);
        DayOpeners x = Check.of("trade a 0 0;trade b 12 0;law fame 1;");
        open(x, 0, 19);
        rests("known 19", x, 11);
        open(x, 0, 1);
        rests("known 20", x, 1, 11);
        open(x, 1, 39);
        rests("known 20 and 39", x, 1, 10, 11);
        open(x, 0, 20);
        rests("known 40 and 39", x, 1, 10);
        open(x, 1, 1);
        rests("known 40 and 40", x, 1, 10);
        for (int no : NO_INDEX) {
            CHECK.due("rests " + no + ", 0", x.rests(no, 0), -1);
            CHECK.due("rests 0, " + no, x.rests(0, no), -1);
            CHECK.due("rests " + no + ", itself", x.rests(no, no), -1);
            CHECK.due("rest " + no + ", 0", x.rest(no, 0, 0), -1);
            CHECK.due("rest 0, " + no, x.rest(0, no, 0), -1);
        }
        CHECK.due("rests alike", x.rests(1, 1), -1);
        CHECK.due("rests 0, 2", x.rests(0, 2), -1);
        CHECK.due("rest alike", x.rest(0, 0, 0), -1);
        CHECK.due("rest alike, far", x.rest(0, 0, 9), -1);
        CHECK.due("rest below 0", x.rest(0, 1, -1), -1);
        CHECK.due("rest far below 0", x.rest(0, 1, Integer.MIN_VALUE), -1);
    }

    private static void open(DayOpeners x, int trade, int days) {
        for (int i = 0; i < days; i++) {
            x.appoint(trade);
            x.go(1);
        }
    }

    public static void main(String[] args) {
        fairAndPairs();
        seatsNow();
        power();
        even();
        rare();
        rests();
        CHECK.ends();
    }
}
