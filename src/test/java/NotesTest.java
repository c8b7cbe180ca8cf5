/** Promises 32 to 36: note, strike, toldBy, hours, ask. */
public final class NotesTest {
    private static final Check CHECK = new Check();
    private static final int ALL = (1 << 24) - 1;
    private static final int[] NO_INDEX = {-1, 6, 7, 64, Integer.MAX_VALUE, Integer.MIN_VALUE};

    private static int hours(int from, int to) {
        int bits = 0;
        for (int hour = from; hour <= to; hour++) {
            bits |= 1 << hour;
        }
        return bits;
    }

    private static void notes() {
        DayOpeners x = Check.of("trade a 5 0;turn a;");
        CHECK.due("no days", x.note(0, 5, true), -1);
        CHECK.due("61 days", x.note(61, 5, true), -1);
        CHECK.due("length -1", x.note(1, -1, true), -1);
        CHECK.due("length 25", x.note(1, 25, false), -1);
        CHECK.due("far beyond", x.note(Integer.MAX_VALUE, Integer.MIN_VALUE, false), -1);
        CHECK.due("none yet to strike", x.strike(0), -1);
        for (int i = 0; i < 24; i += 2) {
            CHECK.due("a note", x.note(i == 0 ? 1 : 60, i == 0 ? 0 : 24, i % 4 == 0), i);
            CHECK.due("not itself", x.strike(i + 1), -1);
            CHECK.due("a strike", x.strike(i), i + 1);
        }
        CHECK.due("24 are all", x.note(1, 1, true), -1);
        CHECK.due("24 are all", x.strike(0), -1);
        CHECK.due("24 are all", x.count(11), 24);
        for (int no : new int[] {-1, 24, Integer.MAX_VALUE, Integer.MIN_VALUE}) {
            CHECK.due("strike " + no, x.strike(no), -1);
        }
        DayOpeners y = new DayOpeners();
        CHECK.due("without trades", y.note(60, 24, false), 0);
        CHECK.due("told by all of a new object", y.count(12), 1);
        for (int no : new int[] {-1, 1, Integer.MAX_VALUE, Integer.MIN_VALUE}) {
            CHECK.due("strike " + no, y.strike(no), -1);
        }
    }

    private static void tells() {
        DayOpeners x = Check.of("trade a 5 0;trade b 5 0;turn a;");
        CHECK.due("none are told", x.hours(0), ALL);
        CHECK.due("toldBy 1 of none", x.toldBy(1), false);
        x.note(1, 10, true);
        CHECK.due("at least 10", x.hours(0), hours(0, 14));
        x.note(2, 15, false);
        CHECK.due("less than 15", x.hours(0), hours(10, 14));
        CHECK.due("b opens none, a has 19", x.hours(1), 0);
        x.strike(1);
        CHECK.due("struck", x.hours(0), hours(0, 14));
        CHECK.due("b: 19 is at least 10", x.hours(1), ALL);
        x.strike(2);
        CHECK.due("what strikes is struck", x.hours(0), hours(10, 14));
        x.strike(3);
        CHECK.due("and that one, too", x.hours(0), hours(0, 14));
        x.strike(0);
        CHECK.due("both are struck", x.hours(0), ALL);
        int[] by = {ALL, hours(0, 14), hours(10, 14), hours(0, 14), hours(10, 14), hours(0, 14), ALL};
        for (int n = 0; n < by.length; n++) {
            CHECK.due("toldBy " + n, x.toldBy(n), true);
            CHECK.due("told by " + n, x.hours(0), by[n]);
            CHECK.due("count told by " + n, x.count(12), n);
        }
        for (int no : new int[] {-2, 7, 24, Integer.MAX_VALUE, Integer.MIN_VALUE}) {
            CHECK.due("toldBy " + no, x.toldBy(no), false);
        }
        CHECK.due("told by as many still", x.count(12), 6);
        x.note(1, 20, true);
        CHECK.due("not by those to come", x.hours(0), ALL);
        x.toldBy(-1);
        CHECK.due("by all", x.hours(0), hours(0, 4));
        x.note(1, 21, false);
        CHECK.due("also by those to come", x.hours(0), hours(4, 4));
        CHECK.due("no trade 2", x.hours(2), -1);
        DayOpeners late = Check.of("trade a 5 0;turn a;law length hour*(date/59);");
        late.note(60, 12, true);
        late.strike(0);
        CHECK.due("struck, seen by none", late.hours(0), ALL);
        late.toldBy(1);
        CHECK.due("told again, seen behind 60", late.hours(0), hours(12, 23));
        for (int no : NO_INDEX) {
            CHECK.due("hours of " + no, x.hours(no), -1);
        }
    }

    private static void whatCounts() {
        DayOpeners x = Check.of("trade a 5 0;trade b 5 0;turn a;turn b;slip 50;");
        x.go(7);
        x.put(0, 1);
        x.appoint(0);
        x.note(1, 20, true);
        CHECK.due("from the text on, by mistake b at first", x.hours(0), 0);
        CHECK.due("from the text on, by mistake b at first", x.hours(1), hours(0, 4));
        CHECK.due("nothing is done by looking", x.count(5), 7);
        DayOpeners dark = Check.of("trade a 5 0;turn a;law will date>=3;");
        dark.note(3, 0, true);
        CHECK.due("none was opened: 0 is at least 0", dark.hours(0), ALL);
        dark.note(3, 1, false);
        CHECK.due("none was opened: 0 is less than 1", dark.hours(0), ALL);
        dark.note(4, 20, true);
        CHECK.due("one was opened", dark.hours(0), hours(0, 4));
        dark.note(3, 0, false);
        CHECK.due("0 is not less than 0", dark.hours(0), 0);
        DayOpeners last = Check.of("trade a 5 0;turn a;law will date<3;law length hour+date;");
        last.note(60, 24, true);
        CHECK.due("the last day that was opened", last.hours(0), hours(22, 23));
        last.note(1, 23, true);
        CHECK.due("the first day, too", last.hours(0), hours(23, 23));
        DayOpeners will = Check.of("trade a 5 0;trade b 9 0;turn a;turn b;law will hour<9;law length hour;");
        will.note(2, 3, true);
        CHECK.due("hour in all laws", will.hours(0), hours(3, 8));
    }

    private static void asked(String text, int trade, int days, int left) {
        DayOpeners x = Check.of(text);
        CHECK.due("ask of " + text, x.ask(trade, 0), days);
        CHECK.due("left by ask of " + text, x.ask(trade, 1), left);
    }

    private static void asks() {
        asked("trade a 5 0;turn a;", 0, 1, 1);
        asked("trade a 5 0;", 0, 1, 24);
        asked("trade a 5 0;trade b 5 0;turn a;", 1, 1, 24);
        asked("trade a 5 0;trade b 5 0;turn a;turn b;", 1, 2, 1);
        asked("trade a 5 0;turn a;law length hour/(5-date);", 0, 5, 1);
        asked("trade a 5 0;turn a;law length hour/(5-date);law will date<3;", 0, 3, 3);
        asked("trade a 5 0;turn a;law length hour/2;law will date>=30;", 0, 31, 2);
        asked("trade a 5 0;turn a;law will date>=59;", 0, 60, 1);
        asked("trade a 5 0;turn a;law will date>=60;", 0, 1, 24);
        asked("trade a 5 0;turn a;law length hour-20;", 0, 1, 21);
        asked("trade a 5 0;turn a;law length hour+20;", 0, 1, 20);
        asked("trade a 5 0;turn a;law length 23;", 0, 1, 24);
        DayOpeners x = Check.of("trade a 5 0;turn a;law length hour/(5-date);");
        x.note(1, 1, false);
        CHECK.due("of 0 .. 4 behind 1", x.hours(0), hours(0, 4));
        CHECK.due("asked", x.ask(0, 0), 5);
        x.note(4, 1, true);
        CHECK.due("of 2 .. 4", x.ask(0, 0), 5);
        x.note(2, 1, false);
        CHECK.due("of 2 .. 3", x.hours(0), hours(2, 3));
        CHECK.due("asked", x.ask(0, 0), 3);
        CHECK.due("one left", x.ask(0, 1), 1);
        x.note(5, 3, true);
        CHECK.due("of 3", x.ask(0, 0), 1);
        CHECK.due("one left", x.ask(0, 1), 1);
        x.note(5, 3, false);
        CHECK.due("of none", x.ask(0, 0), 1);
        CHECK.due("none left", x.ask(0, 1), 0);
        x.toldBy(0);
        CHECK.due("of all, told by none", x.ask(0, 1), 1);
        for (int no : NO_INDEX) {
            CHECK.due("ask of " + no, x.ask(no, 0), -1);
        }
        CHECK.due("ask of 1", x.ask(1, 0), -1);
        for (int no : new int[] {-1, 2, 3, Integer.MAX_VALUE, Integer.MIN_VALUE}) {
            CHECK.due("ask what " + no, x.ask(0, no), -1);
        }
    }

    public static void main(String[] args) {
        notes();
        tells();
        whatCounts();
        asks();
        CHECK.ends();
    }
}
