/** Promises 32 to 38: each sentence that names an edge has a method of its own. */
public final class NoteEdgesTest {
    private static final Check CHECK = new Check();
    private static final int ALL = (1 << 24) - 1;
    private static final int[] FAR = {-1, 12, 24, 25, 31, 32, 33, 64, 201, Integer.MAX_VALUE, Integer.MIN_VALUE};
    // Its days are of 24 less its hour.
    private static final String ONE = "trade a 5 0;turn a;";

    private static int hours(int from, int to) {
        int bits = 0;
        for (int hour = from; hour <= to; hour++) {
            bits |= 1 << hour;
        }
        return bits;
    }

    /** Promise 32: DAYS 1 .. 60, LENGTH 0 .. 24; NONE: no such ones. */
    private static void noteOfWhat() {
        DayOpeners x = Check.of(ONE);
        CHECK.due("0 days", x.note(0, 5, true), -1);
        CHECK.due("61 days", x.note(61, 5, true), -1);
        CHECK.due("length -1", x.note(5, -1, true), -1);
        CHECK.due("length 25", x.note(5, 25, true), -1);
        CHECK.due("less than -1", x.note(5, -1, false), -1);
        CHECK.due("less than 25", x.note(5, 25, false), -1);
        CHECK.due("none came", x.count(11), 0);
        CHECK.due("day 1, length 0", x.note(1, 0, true), 0);
        CHECK.due("day 60, length 24", x.note(60, 24, true), 1);
        CHECK.due("day 1, less than 24", x.note(1, 24, false), 2);
        CHECK.due("day 60, less than 0", x.note(60, 0, false), 3);
        for (int no : new int[] {Integer.MAX_VALUE, Integer.MIN_VALUE}) {
            CHECK.due("days " + no, x.note(no, 5, true), -1);
            CHECK.due("length " + no, x.note(5, no, true), -1);
        }
        CHECK.due("four came", x.count(11), 4);
    }

    /** Promises 32, 33: at most 24, numbered from 0 on: NONE, or there are 24. */
    private static void notesOfMany() {
        DayOpeners x = Check.of(ONE);
        for (int i = 0; i < 23; i++) {
            CHECK.due("note " + i, x.note(1, 0, true), i);
        }
        CHECK.due("the last one tells", x.note(60, 20, true), 23);
        CHECK.due("its hours", x.hours(0), hours(0, 4));
        CHECK.due("a 25th", x.note(1, 1, true), -1);
        CHECK.due("a 25th that strikes", x.strike(23), -1);
        CHECK.due("24", x.count(11), 24);
        CHECK.due("told by 24", x.toldBy(24), true);
        CHECK.due("told by 25", x.toldBy(25), false);
        CHECK.due("its hours", x.hours(0), hours(0, 4));
        x.toldBy(23);
        CHECK.due("without the last one", x.hours(0), ALL);
        DayOpeners y = Check.of(ONE);
        y.note(1, 20, true);
        for (int i = 1; i < 23; i++) {
            y.note(1, 0, true);
        }
        CHECK.due("the last one strikes", y.strike(0), 23);
        CHECK.due("the first one is struck", y.hours(0), ALL);
        CHECK.due("a 25th", y.note(1, 1, true), -1);
        CHECK.due("a 25th that strikes", y.strike(0), -1);
        DayOpeners z = Check.of(ONE);
        for (int i = 0; i < 22; i++) {
            z.note(1, 0, true);
        }
        z.note(1, 20, true);
        CHECK.due("the last one strikes the one ahead", z.strike(22), 23);
        CHECK.due("struck", z.hours(0), ALL);
    }

    /** Promise 33: NONE: no such one. */
    private static void strikeOfNone() {
        DayOpeners x = Check.of(ONE);
        CHECK.due("none yet", x.strike(0), -1);
        x.note(1, 20, true);
        CHECK.due("not itself", x.strike(1), -1);
        CHECK.due("-1", x.strike(-1), -1);
        for (int no : FAR) {
            CHECK.due("strike " + no, x.strike(no), -1);
        }
        CHECK.due("none came", x.count(11), 1);
        CHECK.due("the one ahead", x.strike(0), 1);
        CHECK.due("what strikes", x.strike(1), 2);
        CHECK.due("again", x.strike(1), 3);
    }

    /** What strikes may be STRUCK: then it doesn't count; asked from the last one on. */
    private static void struck() {
        DayOpeners x = Check.of(ONE);
        x.note(1, 20, true);
        int told = hours(0, 4);
        CHECK.due("told", x.hours(0), told);
        for (int strikes = 0; strikes < 23; strikes++) {
            x.strike(strikes);
            CHECK.due("struck in a row by " + (strikes + 1), x.hours(0), strikes % 2 == 0 ? ALL : told);
        }
        for (int n = 1; n <= 24; n++) {
            x.toldBy(n);
            CHECK.due("told by " + n, x.hours(0), n % 2 == 0 ? ALL : told);
        }
        // Two strike it, and only one of them is struck.
        DayOpeners y = Check.of(ONE);
        y.note(1, 20, true);
        y.strike(0);
        y.strike(0);
        y.strike(1);
        CHECK.due("struck by the other one still", y.hours(0), ALL);
        y.strike(2);
        CHECK.due("both are struck", y.hours(0), told);
    }

    /** TOLD by n: the first n that aren't STRUCK by one of these. */
    private static void toldByThese() {
        DayOpeners x = Check.of(ONE);
        x.note(1, 20, true);
        x.note(1, 22, true);
        x.strike(0);
        x.strike(2);
        int[] by = {ALL, hours(0, 4), hours(0, 2), hours(0, 2), hours(0, 2)};
        for (int n = 0; n <= 4; n++) {
            x.toldBy(n);
            CHECK.due("told by " + n, x.hours(0), by[n]);
        }
        DayOpeners y = Check.of(ONE);
        y.note(1, 20, true);
        y.note(1, 10, true);
        y.strike(0);
        int[] of = {ALL, hours(0, 4), hours(0, 4), hours(0, 14)};
        for (int n = 3; n >= 0; n--) {
            y.toldBy(n);
            CHECK.due("told by " + n, y.hours(0), of[n]);
        }
    }

    /** Promise 34: -1: by all, also those to come; false: no such n. */
    private static void toldBy() {
        DayOpeners x = Check.of(ONE);
        CHECK.due("by none of none", x.toldBy(0), true);
        CHECK.due("by one of none", x.toldBy(1), false);
        CHECK.due("by all of none", x.toldBy(-1), true);
        CHECK.due("-2", x.toldBy(-2), false);
        x.note(1, 20, true);
        CHECK.due("also by those to come", x.hours(0), hours(0, 4));
        CHECK.due("by one of one", x.toldBy(1), true);
        x.note(1, 24, true);
        CHECK.due("not by those to come", x.hours(0), hours(0, 4));
        CHECK.due("by three of two", x.toldBy(3), false);
        CHECK.due("by -2 of two", x.toldBy(-2), false);
        CHECK.due("it stays", x.hours(0), hours(0, 4));
        CHECK.due("it stays", x.count(12), 1);
        CHECK.due("by two of two", x.toldBy(2), true);
        CHECK.due("by both", x.hours(0), 1);
        CHECK.due("by none of two", x.toldBy(0), true);
        CHECK.due("by none", x.hours(0), ALL);
        for (int no : new int[] {-2, 3, 24, 25, Integer.MAX_VALUE, Integer.MIN_VALUE}) {
            CHECK.due("by " + no, x.toldBy(no), false);
        }
        CHECK.due("a new text", Check.tell(x, ONE), 2);
        x.note(1, 20, true);
        CHECK.due("all are told", x.hours(0), hours(0, 4));
    }

    /** The last DAY that was opened had LENGTH 0 .. 24 at least, or less (0: none was). */
    private static void atLeastOrLess() {
        for (int length = 0; length <= 24; length++) {
            DayOpeners x = Check.of(ONE);
            x.note(1, length, true);
            CHECK.due("at least " + length, x.hours(0), hours(0, Math.min(23, 24 - length)));
            x = Check.of(ONE);
            x.note(1, length, false);
            CHECK.due("less than " + length, x.hours(0), hours(25 - length, 23));
            DayOpeners dark = Check.of("trade a 5 0;");
            dark.note(60, length, true);
            CHECK.due("none was, at least " + length, dark.hours(0), length == 0 ? ALL : 0);
            dark = Check.of("trade a 5 0;");
            dark.note(60, length, false);
            CHECK.due("none was, less than " + length, dark.hours(0), length == 0 ? 0 : ALL);
        }
        DayOpeners x = Check.of(ONE + "law will date<>1;law length date*10+hour;");
        x.note(2, 7, true);
        CHECK.due("behind 2, the second was dark", x.hours(0), hours(7, 23));
        x.note(2, 9, false);
        CHECK.due("behind 2, less", x.hours(0), hours(7, 8));
        x.note(3, 24, true);
        CHECK.due("behind 3, 24 at least", x.hours(0), hours(7, 8));
    }

    /** Behind so many DAYS 1 .. 60: as it goes from the TEXT on, nothing done by call. */
    private static void fromTheTextOn() {
        for (int days = 1; days <= 60; days++) {
            DayOpeners x = Check.of(ONE + "law length (hour>7)*(date=" + (days - 1) + ");law will date<" + days + ";");
            x.note(days, 1, true);
            CHECK.due("behind " + days, x.hours(0), hours(8, 23));
            if (days < 60) {
                x.note(days + 1, 1, false);
                CHECK.due("the last one that was opened stays behind " + (days + 1), x.hours(0), 0);
            }
        }
        DayOpeners y = Check.of("trade a 5 0;trade b 9 0;turn a;turn b;slip 50;seed 1;");
        y.note(1, 20, true);
        y.appoint(0);
        y.put(1, 0);
        CHECK.due("whoever is appointed or put, b's mistake", y.hours(0), 0);
        CHECK.due("whoever is appointed or put, b's mistake", y.hours(1), hours(0, 4));
        y.go(3);
        CHECK.due("whatever went by", y.hours(1), hours(0, 4));
        CHECK.due("the day stays", y.count(5), 3);
    }

    /** HOURS of a TRADE: 0 .. 23 in place of HOUR told, by which all TOLD ones are so; NONE: no such TRADE. */
    private static void hoursOfWhom() {
        DayOpeners x = Check.of("trade a 0 0;trade b 1 1;trade c 2 2;trade d 3 3;trade e 4 4;trade f 5 5;turn f;");
        x.note(1, 24, true);
        CHECK.due("of f: 0 alone", x.hours(5), 1);
        CHECK.due("of e: f has 19", x.hours(4), 0);
        CHECK.due("trade 6", x.hours(6), -1);
        for (int no : FAR) {
            CHECK.due("hours of " + no, x.hours(no), -1);
        }
        CHECK.due("no trades", new DayOpeners().hours(0), -1);
        CHECK.due("the hour stays as told", x.trade(5, 0), 5);
        DayOpeners y = Check.of(ONE);
        y.note(1, 1, true);
        CHECK.due("all hours", y.hours(0), ALL);
        y.note(1, 2, false);
        CHECK.due("23 alone", y.hours(0), 1 << 23);
    }

    /** ASK: as few of HOURS as may be are left at worst, the first of several; 1, none left, if there are none. */
    private static void ask() {
        DayOpeners x = Check.of(ONE);
        CHECK.due("behind the first day", x.ask(0, 0), 1);
        CHECK.due("each answer leaves one", x.ask(0, 1), 1);
        DayOpeners none = Check.of("trade a 5 0;");
        CHECK.due("none tells: the first of several", none.ask(0, 0), 1);
        CHECK.due("none tells: all are left", none.ask(0, 1), 24);
        for (int days : new int[] {2, 30, 59, 60}) {
            DayOpeners y = Check.of(ONE + "law length hour*(date=" + (days - 1) + ");");
            CHECK.due("told by day " + days + " alone", y.ask(0, 0), days);
            CHECK.due("told by day " + days + " alone", y.ask(0, 1), 1);
        }
        DayOpeners late = Check.of(ONE + "law length hour*(date=60);");
        CHECK.due("told by day 61 alone", late.ask(0, 0), 1);
        CHECK.due("told by day 61 alone", late.ask(0, 1), 24);
        DayOpeners halves = Check.of(ONE + "law length hour/12*(date=3)+hour/8*(date=7)+hour/8*(date=9);");
        CHECK.due("three parts are less than two", halves.ask(0, 0), 8);
        CHECK.due("eight at worst", halves.ask(0, 1), 8);
        x.note(1, 20, true);
        x.note(1, 20, false);
        CHECK.due("no hours", x.hours(0), 0);
        CHECK.due("no hours: 1", x.ask(0, 0), 1);
        CHECK.due("no hours: none left", x.ask(0, 1), 0);
        late.note(1, 1, true);
        CHECK.due("no hours, day 61 alone: 1", late.ask(0, 0), 1);
        CHECK.due("no hours, day 61 alone: none left", late.ask(0, 1), 0);
        DayOpeners one = Check.of(ONE + "law length hour*(date>2);");
        one.note(4, 23, true);
        CHECK.due("one hour", one.hours(0), 1 << 23);
        CHECK.due("one hour: 1", one.ask(0, 0), 1);
        CHECK.due("one hour: it is left", one.ask(0, 1), 1);
    }

    /** Promise 36: what 0, 1; NONE: no such ones. */
    private static void askOfNone() {
        DayOpeners x = Check.of(ONE);
        CHECK.due("what -1", x.ask(0, -1), -1);
        CHECK.due("what 2", x.ask(0, 2), -1);
        CHECK.due("trade -1", x.ask(-1, 0), -1);
        CHECK.due("trade 1", x.ask(1, 1), -1);
        for (int no : FAR) {
            CHECK.due("ask of " + no, x.ask(no, 0), -1);
            CHECK.due("ask what " + no, x.ask(0, no), -1);
        }
        CHECK.due("no trades", new DayOpeners().ask(0, 0), -1);
    }

    /** How often, of ten times so many days on a list a, b from its first place on, b opened as often as it needs. */
    private static int drawn(int seed, int slip, int days, int need) {
        long number = seed;
        int found = 0;
        for (int i = 0; i < 10; i++) {
            int next = 0;
            int opened = 0;
            for (int day = 0; day < days; day++) {
                number = (number * 1103515245L + 12345L) % 2147483648L;
                next = number / 65536 % 100 < slip ? 1 - next : next;
                opened += next;
                next = 1 - next;
            }
            found += opened >= need ? 1 : 0;
        }
        return found;
    }

    /** Promise 37: numbers from a seed 0 .. 2147483647 on, one behind another; n 1 .. 99 DAYS from now. */
    private static void chance() {
        String two = "trade a 4 0;trade b 14 0;turn a;turn b;work v 20 20 9;work w 10 10 9;seed 3;slip ";
        for (int slip : new int[] {1, 30, 50, 70, 99}) {
            DayOpeners x = Check.of(two + slip + ";");
            for (int seed : new int[] {0, 1, 12345, 99999, 100000, 1 << 30, Integer.MAX_VALUE - 1, Integer.MAX_VALUE}) {
                for (int n : new int[] {1, 2, 9, 15, 17, 18, 19, 98, 99}) {
                    CHECK.due("chance of " + seed + ", slip " + slip + ", " + n + " days", x.chance(seed, n, 1),
                        drawn(seed, slip, n, 9));
                }
            }
            CHECK.due("seed -1", x.chance(-1, 1, 0), -1);
            CHECK.due("seed lowest", x.chance(Integer.MIN_VALUE, 1, 0), -1);
            CHECK.due("no days", x.chance(1, 0, 0), -1);
            CHECK.due("100 days", x.chance(1, 100, 0), -1);
            CHECK.due("-1 days", x.chance(1, -1, 0), -1);
            CHECK.due("work -1", x.chance(1, 1, -1), -1);
            CHECK.due("work 2", x.chance(1, 1, 2), -1);
            for (int no : new int[] {201, 1000, Integer.MAX_VALUE, Integer.MIN_VALUE}) {
                CHECK.due("days " + no, x.chance(1, no, 0), -1);
                CHECK.due("work " + no, x.chance(1, 1, no), -1);
            }
        }
        DayOpeners never = Check.of(two + "0;");
        CHECK.due("slip 0: not by 17", never.chance(5, 17, 1), 0);
        CHECK.due("slip 0: by 18", never.chance(5, 18, 1), 10);
        DayOpeners always = Check.of(two + "100;");
        CHECK.due("slip 100: b each day, not by 8", always.chance(5, 8, 1), 0);
        CHECK.due("slip 100: by 9", always.chance(5, 9, 1), 10);
        never.go(16);
        CHECK.due("from now, not by 1", never.chance(5, 1, 1), 0);
        CHECK.due("from now, by 2", never.chance(5, 2, 1), 10);
        never.go(2);
        CHECK.due("it is done", never.chance(5, 1, 1), 10);
        never.appoint(1);
        CHECK.due("nothing is done by it", never.count(5), 18);
    }

    /** Promise 37: who is APPOINTED now opens the first of the days each of the ten times. */
    private static void chanceOfWhoIsAppointed() {
        DayOpeners x = Check.of("trade a 4 0;trade b 14 0;trade c 1 0;turn a;turn b;work u 23 23 1;work w 10 10 1;slip 39;");
        x.appoint(2);
        CHECK.due("c", x.chance(1, 1, 0), 10);
        CHECK.due("not b", x.chance(1, 1, 1), 0);
        // The first day draws no number: of 38, 58, 13, 15, 51, 27, 10, 19, 12, 86 seven are below 39.
        CHECK.due("b by mistake then", x.chance(1, 2, 1), 7);
    }

    /** Promise 38: n 0 .. 200; NONE: no such ones (i 0 of all but 2). */
    private static void triedOfNone() {
        DayOpeners x = Check.of("trade a 4 0;trade b 9 0;turn a;work w 20 20 2;");
        for (int what = 0; what <= 4; what++) {
            CHECK.due("tried " + what + " for 0", x.tried(what, 0, 0), 0);
            CHECK.due("tried " + what + " for 200", x.tried(what, 0, 200), what == 2 || what == 4 ? 0 : 1);
            CHECK.due("tried " + what + " for -1", x.tried(what, 0, -1), -1);
            CHECK.due("tried " + what + " for 201", x.tried(what, 0, 201), -1);
            CHECK.due("tried " + what + " with 1", x.tried(what, 1, 2), what == 2 ? 1 : -1);
            CHECK.due("tried " + what + " with 2", x.tried(what, 2, 2), -1);
            CHECK.due("tried " + what + " with -1", x.tried(what, -1, 2), -1);
            for (int no : FAR) {
                CHECK.due("tried " + what + " with " + no, x.tried(what, no, 2), -1);
            }
            CHECK.due("tried " + what + " for the highest", x.tried(what, 0, Integer.MAX_VALUE), -1);
            CHECK.due("tried " + what + " for the lowest", x.tried(what, 0, Integer.MIN_VALUE), -1);
        }
        CHECK.due("tried -1", x.tried(-1, 0, 2), -1);
        CHECK.due("tried 5", x.tried(5, 0, 2), -1);
        for (int no : FAR) {
            CHECK.due("tried " + no, x.tried(no, 0, 2), -1);
        }
        DayOpeners none = new DayOpeners();
        for (int what = 0; what <= 4; what++) {
            CHECK.due("tried " + what + " without trades", none.tried(what, 0, 9), what == 2 ? -1 : 0);
        }
    }

    /** TRIED: 0 no MISTAKES, 1 a MISTAKE whenever the LIST is asked, whatever slip is. */
    private static void triedMistakes() {
        for (int slip : new int[] {0, 1, 49, 50, 99, 100}) {
            DayOpeners x = Check.of("trade a 4 0;trade b 14 0;turn a;turn b;work v 20 20 1;work w 10 10 1;claim a 2;slip "
                + slip + ";");
            CHECK.due("no mistakes with slip " + slip, x.tried(0, 0, 1), 1);
            CHECK.due("no mistakes with slip " + slip, x.tried(0, 0, 2), 2);
            CHECK.due("b by mistake with slip " + slip, x.tried(1, 0, 1), 1);
            CHECK.due("b by mistake again with slip " + slip, x.tried(1, 0, 2), 1);
            CHECK.due("then a claims with slip " + slip, x.tried(1, 0, 3), 2);
            x.appoint(0);
            CHECK.due("who is appointed is no mistake with slip " + slip, x.tried(1, 0, 1), 1);
            CHECK.due("then b by mistake with slip " + slip, x.tried(1, 0, 2), 2);
            CHECK.due("then a without one with slip " + slip, x.tried(0, 0, 2), 1);
        }
    }

    /** TRIED: 2 TRADE i never wills (APPOINTED, claimed it opens), 3 no CLAIMS, 4 all HOURS are 0 (hour, too). */
    private static void triedOtherwise() {
        DayOpeners x = Check.of("trade a 4 0;trade b 14 0;turn a;turn b;work v 20 20 1;work w 10 10 1;work u 24 24 1;claim b 1;"
            + "law will 1/0;");
        CHECK.due("a never wills: b", x.tried(2, 0, 9), 1);
        CHECK.due("b never wills, but claims", x.tried(2, 1, 9), 2);
        CHECK.due("no claims: b by the list", x.tried(3, 0, 2), 2);
        CHECK.due("all hours 0", x.tried(4, 0, 1), 1);
        x.appoint(0);
        CHECK.due("a never wills, but is appointed", x.tried(2, 0, 1), 1);
        CHECK.due("appointed without claims", x.tried(3, 0, 1), 1);
        x.go(2);
        CHECK.due("no claims any more", x.tried(3, 0, 1), x.ahead(1, 0, 0));
        DayOpeners claimed = Check.of("trade a 4 0;work v 20 20 1;claim a 0;");
        CHECK.due("claimed", claimed.tried(0, 0, 1), 1);
        CHECK.due("no claims, no list: dark", claimed.tried(3, 0, 200), 0);
        DayOpeners hour = Check.of("trade a 4 0;trade b 9 0;turn a;turn b;work v 24 24 2;work w 3 3 1;law will hour<5;law fame hour;");
        CHECK.due("b's hour is 0, too", hour.tried(4, 0, 2), 1);
        DayOpeners law = Check.of("trade a 4 0;turn a;work w 7 7 1;law length hour+7;");
        CHECK.due("hour is 0 in the law", law.tried(4, 0, 1), 1);
        CHECK.due("as told", law.ahead(200, 0, 0), 0);
    }

    public static void main(String[] args) {
        noteOfWhat();
        notesOfMany();
        strikeOfNone();
        struck();
        toldByThese();
        toldBy();
        atLeastOrLess();
        fromTheTextOn();
        hoursOfWhom();
        ask();
        askOfNone();
        chance();
        chanceOfWhoIsAppointed();
        triedOfNone();
        triedMistakes();
        triedOtherwise();
        CHECK.ends();
    }
}
