/** Promises 11 to 14 and 39 to 41: appoint, put, swap, go, undo, keep, back. */
public final class CallsTest {
    private static final Check CHECK = new Check();
    private static final int[] NO_INDEX = {-1, 6, 7, 64, Integer.MAX_VALUE, Integer.MIN_VALUE};

    private static void appoints() {
        DayOpeners x = Check.of("trade a 0 0;trade b 1 0;trade c 2 0;turn a;turn b;claim a 0;slip 100;law will manner;");
        CHECK.due("ahead of it", x.opener(0), 0);
        CHECK.due("appoint c", x.appoint(2), true);
        CHECK.due("ahead of the claim, unasked by will", x.opener(0), 2);
        CHECK.due("appoint b in place of c", x.appoint(1), true);
        CHECK.due("b now", x.opener(0), 1);
        CHECK.due("two can be undone", x.count(13), 2);
        CHECK.due("the day behind it", x.opener(1), -2);
        x.go(1);
        CHECK.due("no mistake was made", x.count(8), 0);
        CHECK.due("b opened", x.trade(1, 3), 1);
        CHECK.due("next stays", x.count(6), 0);
        CHECK.due("nobody is appointed then", x.opener(0), -2);
        for (int no : NO_INDEX) {
            CHECK.due("appoint " + no, x.appoint(no), false);
        }
        CHECK.due("appoint 3", x.appoint(3), false);
        CHECK.due("nothing to undo by it", x.count(13), 0);
        CHECK.due("a new object", new DayOpeners().appoint(0), false);
        DayOpeners y = Check.of("trade a 0 0;");
        y.appoint(0);
        CHECK.due("appointed without a list", y.opener(0), 0);
        CHECK.due("appointed for this day only", y.opener(1), -2);
    }

    private static void puts() {
        DayOpeners x = Check.of("trade a 0 0;trade b 1 0;turn a;turn b;turn a;");
        CHECK.due("put 2, b", x.put(2, 1), 0);
        CHECK.due("place 2", x.place(2), 1);
        CHECK.due("put 2, b again", x.put(2, 1), 1);
        CHECK.due("both can be undone", x.count(13), 2);
        CHECK.due("put 0, b", x.put(0, 1), 0);
        CHECK.due("a has no place", x.trade(0, 4), 0);
        CHECK.due("a opens none", x.soon(0), -2);
        CHECK.due("no place 3", x.put(3, 0), -1);
        CHECK.due("no trade 2", x.put(0, 2), -1);
        for (int no : NO_INDEX) {
            CHECK.due("put " + no + ", a", x.put(no, 0), -1);
            CHECK.due("put 0, " + no, x.put(0, no), -1);
        }
        CHECK.due("nothing to undo by it", x.count(13), 3);
        CHECK.due("the list stays", x.place(0), 1);
        CHECK.due("no list", Check.of("trade a 0 0;").put(0, 0), -1);
    }

    private static void swaps() {
        DayOpeners x = Check.of("trade a 0 0;trade b 1 0;turn a;turn b;turn a;");
        CHECK.due("swap 0, 1", x.swap(0, 1), true);
        CHECK.due("place 0", x.place(0), 1);
        CHECK.due("place 1", x.place(1), 0);
        CHECK.due("place 2", x.place(2), 0);
        CHECK.due("of one trade", x.swap(1, 2), false);
        CHECK.due("alike", x.swap(1, 1), false);
        CHECK.due("no place 3", x.swap(3, 0), false);
        for (int no : NO_INDEX) {
            CHECK.due("swap " + no + ", 0", x.swap(no, 0), false);
            CHECK.due("swap 0, " + no, x.swap(0, no), false);
            CHECK.due("swap " + no + ", itself", x.swap(no, no), false);
        }
        CHECK.due("one can be undone", x.count(13), 1);
        CHECK.due("swap back", x.swap(1, 0), true);
        CHECK.due("place 0 again", x.place(0), 0);
    }

    private static void goes() {
        // Drawn from seed 1: 38, 58, 13, 15, 51, 27, 10, 19, 12, 86 of a hundred.
        DayOpeners x = Check.of("trade a 0 0;trade b 10 0;trade c 20 0;turn a;turn b;turn c;slip 50;seed 1;");
        CHECK.due("no day", x.go(0), 0);
        CHECK.due("a day", x.go(1), 1);
        CHECK.due("by mistake the next one", x.trade(1, 3), 1);
        CHECK.due("next", x.count(6), 2);
        CHECK.due("a day", x.go(1), 2);
        CHECK.due("no mistake", x.trade(2, 3), 1);
        CHECK.due("three days", x.go(3), 5);
        CHECK.due("mistakes", x.count(8), 3);
        CHECK.due("a opened", x.trade(0, 3), 1);
        CHECK.due("b opened", x.trade(1, 3), 3);
        CHECK.due("c opened", x.trade(2, 3), 1);
        CHECK.due("next", x.count(6), 2);
        CHECK.due("five days", x.go(5), 10);
        CHECK.due("mistakes", x.count(8), 7);
        for (int no : new int[] {-1, 201, 202, Integer.MAX_VALUE, Integer.MIN_VALUE}) {
            CHECK.due("go " + no, x.go(no), -1);
        }
        CHECK.due("no day went by", x.count(5), 10);
        CHECK.due("no list, no mistakes", goneOf("slip 100;").count(8), 0);
        CHECK.due("slip 0, no mistakes", goneOf("trade a 0 0;turn a;seed 1;").count(8), 0);
        CHECK.due("slip 100, mistakes", goneOf("trade a 0 0;turn a;slip 100;seed 1;").count(8), 10);
        CHECK.due("slip 38 is below what is drawn", goneOf("trade a 0 0;turn a;slip 38;seed 1;").count(8), 6);
        CHECK.due("slip 39 is not", goneOf("trade a 0 0;turn a;slip 39;seed 1;").count(8), 7);
        CHECK.due("slip 1", goneOf("trade a 0 0;turn a;slip 1;").count(8), 1);
        CHECK.due("by 65536: 47 is not below 47", goneBy("slip 47;seed 3;", 1).count(8), 0);
        CHECK.due("by 65536: 47 is below 48", goneBy("slip 48;seed 3;", 1).count(8), 1);
        CHECK.due("by 65536: 72 is not below 72", goneBy("slip 72;seed 9;", 1).count(8), 0);
        CHECK.due("by 65536: 72 is below 73", goneBy("slip 73;seed 9;", 1).count(8), 1);
        // Claimed and dark days draw no number but where the list is asked.
        CHECK.due("claims draw none", goneOf("trade a 0 0;turn a;claim a 0;claim a 1;slip 20;seed 1;").count(8), 4);
        CHECK.due("mistakes though nobody opens", goneOf("trade a 0 0;turn a;law will 0;slip 99;").count(8), 10);
    }

    private static DayOpeners goneBy(String odds, int days) {
        DayOpeners x = Check.of("trade a 0 0;turn a;" + odds);
        x.go(days);
        return x;
    }

    private static DayOpeners goneOf(String text) {
        DayOpeners x = Check.of(text);
        x.go(10);
        return x;
    }

    private static void turns() {
        DayOpeners x = Check.of("trade a 0 0;trade b 0 1;trade c 0 0;turn a;turn c;turn b;turn a;law will manner and date<>2;");
        x.go(1);
        CHECK.due("the first who will", x.trade(1, 3), 1);
        CHECK.due("next is behind it", x.count(6), 3);
        x.go(1);
        CHECK.due("all round", x.trade(1, 3), 2);
        CHECK.due("next is behind it", x.count(6), 3);
        x.go(1);
        CHECK.due("dark", x.count(9), 1);
        CHECK.due("next stays", x.count(6), 3);
        DayOpeners y = Check.of("trade a 0 0;trade b 0 1;turn a;turn b;turn a;slip 100;law will 0;");
        y.go(1);
        CHECK.due("next goes on by mistake, though dark", y.count(6), 1);
        y.go(2);
        CHECK.due("past the last place it is 0", y.count(6), 0);
        CHECK.due("mistakes", y.count(8), 3);
        CHECK.due("dark", y.count(9), 3);
        DayOpeners z = Check.of("trade a 0 0;trade b 0 1;turn a;turn b;law will 1/manner;");
        z.go(1);
        CHECK.due("who can't be asked wills", z.trade(0, 3), 1);
        DayOpeners u = Check.of("trade a 0 0;trade b 0 1;turn a;turn b;law will 0-1;claim b 0;");
        u.go(1);
        CHECK.due("a claim leaves next", u.count(6), 0);
        u.go(1);
        CHECK.due("below 0 wills", u.trade(0, 3), 1);
        DayOpeners v = Check.of("trade a 0 0;trade b 0 1;turn a;turn b;law will 0;claim b 0;claim a 1;");
        v.go(2);
        CHECK.due("who claims isn't asked by will", v.count(9), 0);
        DayOpeners w = Check.of("trade a 0 0;trade b 0 1;turn a;claim b 0;claim b 99;");
        w.go(99);
        CHECK.due("a date comes once", w.trade(1, 3), 1);
        w.go(1);
        CHECK.due("the last date", w.trade(1, 3), 2);
        w.go(200);
        CHECK.due("no date behind 99", w.trade(1, 3), 2);
    }

    private static int knownBy(String law, int days) {
        DayOpeners x = Check.of("trade a 1 1;turn a;work w 23 23 3;" + law);
        x.go(days);
        return Check.thrownBy(x, 0, 2) == 0 ? x.trade(0, 2) : -1;
    }

    private static void fames() {
        CHECK.due("fame without a law", knownBy("", 3), 3);
        CHECK.due("fame by law", knownBy("law fame 4;", 3), 12);
        CHECK.due("fame at most", knownBy("law fame 10;", 1), 9);
        CHECK.due("fame at least", knownBy("law fame 9-date*18;", 2), 0);
        CHECK.due("fame far below", knownBy("law fame 9-date/2*100;", 3), 9);
        CHECK.due("fame far below", knownBy("law fame 9-date*2;", 200), 0);
        CHECK.due("fame below 0", knownBy("law fame 0-1;", 2), 0);
        CHECK.due("fame with an error", knownBy("law fame 1/0;", 3), 3);
        CHECK.due("known at most", knownBy("law fame 9;", 112), 999);
        CHECK.due("known by last: none, then 23", knownBy("law fame last;", 1), 0);
        CHECK.due("known by last: none, then 23", knownBy("law fame last;", 2), 9);
        CHECK.due("known by opened so far", knownBy("law fame opened;", 3), 3);
        CHECK.due("known by known so far", knownBy("law fame known+1;", 3), 7);
        CHECK.due("known by works left so far", knownBy("law fame left;", 4), 3);
    }

    private static void goesFar() {
        DayOpeners x = Check.of("trade a 1 1;turn a;");
        for (int i = 1; i <= 49; i++) {
            CHECK.due("go " + i, x.go(200), 200 * i);
        }
        CHECK.due("at 9800", x.go(0), 9800);
        CHECK.due("one behind 9800", x.go(1), -1);
        CHECK.due("far behind 9800", x.go(200), -1);
        CHECK.due("none went by", x.count(5), 9800);
        CHECK.due("none opened", x.trade(0, 3), 9800);
        CHECK.due("one can look ahead still", x.ahead(200, 4, 0), 4600);
        CHECK.due("the image of day 9800", x.keep(), 9800);
        CHECK.due("back on day 9800", x.back(), 9800);
        CHECK.due("and none behind it", x.go(1), -1);
        DayOpeners y = farOn("");
        CHECK.due("one too many", y.go(101), -1);
        CHECK.due("200 too many", y.go(200), -1);
        CHECK.due("none went by", y.go(0), 9700);
        CHECK.due("what can be undone stays", y.appoint(0) ? y.go(101) : 0, -1);
        CHECK.due("what can be undone stays", y.count(13), 1);
        CHECK.due("one less", y.go(99), 9799);
        CHECK.due("two too many", y.go(2), -1);
        CHECK.due("just so many", y.go(1), 9800);
        CHECK.due("just so many at once", farOn("").go(100), 9800);
        DayOpeners z = farOn("law length opened-9990;");
        z.go(100);
        CHECK.due("opened once less", z.longAt(198), 8);
        CHECK.due("opened at most", z.longAt(199), 9);
        CHECK.due("opened no more", z.longAt(200), 9);
    }

    /** An object on day 9700, whose only trade opened every day. */
    private static DayOpeners farOn(String more) {
        DayOpeners x = Check.of("trade a 1 1;turn a;" + more);
        for (int i = 0; i < 97; i++) {
            x.go(100);
        }
        return x;
    }

    private static void undoes() {
        DayOpeners x = Check.of("trade a 0 0;trade b 1 0;turn a;turn b;");
        CHECK.due("none", x.undo(), -1);
        x.appoint(1);
        x.put(0, 1);
        x.swap(0, 1);
        x.appoint(0);
        x.put(1, 0);
        x.swap(0, 1);
        CHECK.due("a swap of unlike ones", x.undo(), 4);
        CHECK.due("place 0", x.place(0), 1);
        CHECK.due("a put", x.undo(), 3);
        CHECK.due("place 1", x.place(1), 1);
        CHECK.due("appointed a", x.opener(0), 0);
        CHECK.due("an appointing", x.undo(), 2);
        CHECK.due("appointed b", x.opener(0), 1);
        CHECK.due("no days: nothing is lost", x.go(0), 0);
        CHECK.due("a failing go: nothing is lost", x.go(201), -1);
        CHECK.due("two are left", x.count(13), 2);
        CHECK.due("a put", x.undo(), 1);
        CHECK.due("place 0", x.place(0), 0);
        CHECK.due("an appointing", x.undo(), 0);
        CHECK.due("nobody", x.opener(0), 0);
        CHECK.due("none", x.undo(), -1);
        x.appoint(1);
        x.go(1);
        CHECK.due("none behind a day", x.undo(), -1);
        for (int i = 0; i < 22; i++) {
            x.put(0, i % 2);
        }
        CHECK.due("20 at most", x.count(13), 20);
        for (int i = 19; i >= 0; i--) {
            CHECK.due("the latest first", x.undo(), i);
            CHECK.due("place 0 again", x.place(0), (i + 1) % 2);
        }
        CHECK.due("the oldest are gone", x.undo(), -1);
        CHECK.due("place 0 as behind the second", x.place(0), 1);
        DayOpeners y = Check.of("trade a 0 0;trade b 1 0;trade c 2 0;turn c;turn a;turn b;turn c;turn b;");
        y.put(3, 0);
        y.swap(0, 4);
        y.appoint(0);
        y.undo();
        int[] swapped = {1, 0, 1, 0, 2};
        int[] told = {2, 0, 1, 2, 1};
        for (int place = 0; place < 5; place++) {
            CHECK.due("as behind the swap, place " + place, y.place(place), swapped[place]);
        }
        y.undo();
        y.undo();
        for (int place = 0; place < 5; place++) {
            CHECK.due("as told, place " + place, y.place(place), told[place]);
        }
    }

    private static void images() {
        DayOpeners x = Check.of("trade a 0 0;trade b 10 0;turn a;turn b;work w 0 24 9;slip 50;seed 1;law fame 2;law length last+3;");
        CHECK.due("none", x.back(), -1);
        x.go(3);
        x.appoint(1);
        x.put(0, 1);
        CHECK.due("keep", x.keep(), 3);
        CHECK.due("keeping leaves what can be undone", x.count(13), 2);
        long[] kept = new long[14];
        for (int what = 0; what < 14; what++) {
            kept[what] = x.count(what);
        }
        x.go(6);
        long mistakes = x.count(8);
        int length = x.length(0);
        x.note(1, 1, true);
        x.note(2, 1, true);
        x.toldBy(1);
        x.put(1, 0);
        Check.feed(x, "slip");
        Check.tell(x, "!");
        Check.feed(x, "slip");
        CHECK.due("back", x.back(), 3);
        CHECK.due("back: last", x.length(0), 9 + 3);
        CHECK.due("back: nothing to undo", x.undo(), -1);
        for (int what = 0; what < 11; what++) {
            CHECK.due("back: count " + what, x.count(what), kept[what]);
        }
        CHECK.due("back: notes stay", x.count(11), 2);
        CHECK.due("back: told by one still", x.count(12), 1);
        CHECK.due("back: the fault stays", x.fault(0), 1);
        CHECK.due("back: the tape stays", x.text(21), -2);
        CHECK.due("back: the list", x.place(0), 1);
        CHECK.due("back: the list", x.place(1), 1);
        CHECK.due("back: appointed", x.opener(0), 1);
        CHECK.due("back: went on", x.work(0, 3), 3);
        CHECK.due("the same days again", x.go(6), 9);
        CHECK.due("the same numbers again", x.count(8), mistakes);
        CHECK.due("the same lengths again", x.length(0), length);
        CHECK.due("back again", x.back(), 3);
        x.go(1);
        CHECK.due("keep in place of it", x.keep(), 4);
        x.go(9);
        CHECK.due("back to it", x.back(), 4);
    }

    public static void main(String[] args) {
        appoints();
        puts();
        swaps();
        goes();
        turns();
        fames();
        goesFar();
        undoes();
        images();
        CHECK.ends();
    }
}
