/** Promises 31, 37 and 38: sure, chance, tried. */
public final class OddsTest {
    private static final Check CHECK = new Check();

    private static void sure(String text, int n, long above, long below) {
        DayOpeners x = Check.of(text);
        CHECK.due("sure " + n + " above of " + text, x.sure(n, 0), above);
        CHECK.due("sure " + n + " below of " + text, x.sure(n, 1), below);
    }

    private static void sures() {
        sure("", 0, 1, 1);
        sure("", 6, 1, 1);
        sure("slip 0;", 3, 1, 1);
        sure("slip 60;", 0, 1, 1);
        sure("slip 60;", 1, 2, 5);
        sure("slip 60;", 2, 4, 25);
        sure("slip 50;", 6, 1, 64);
        sure("slip 25;", 3, 27, 64);
        sure("slip 1;", 1, 99, 100);
        sure("slip 1;", 6, 941480149401L, 1000000000000L);
        sure("slip 96;", 6, 1, 244140625);
        sure("slip 99;", 6, 1, 1000000000000L);
        sure("slip 100;", 0, 1, 1);
        sure("slip 100;", 1, 0, 1);
        sure("slip 100;", 6, 0, 1);
        DayOpeners x = Check.of("trade a 0 0;turn a;slip 50;");
        x.go(10);
        CHECK.due("whatever went by", x.sure(2, 1), 4);
        for (int no : new int[] {-1, 7, 8, Integer.MAX_VALUE, Integer.MIN_VALUE}) {
            CHECK.due("sure for " + no, x.sure(no, 0), -1);
            CHECK.due("sure for " + no, x.sure(no, 1), -1);
        }
        for (int no : new int[] {-1, 2, 3, Integer.MAX_VALUE, Integer.MIN_VALUE}) {
            CHECK.due("sure what " + no, x.sure(1, no), -1);
        }
    }

    private static void chances() {
        String two = "trade a 4 0;trade b 14 0;turn a;turn b;work w 10 10 1;work v 20 20 2;work u 9 9 1;";
        DayOpeners x = Check.of(two + "slip 50;seed 7;");
        // From 1 on: 38, 58, 13, 15, 51, 27, 10, 19, 12, 86 of a hundred.
        CHECK.due("ten times one day", x.chance(1, 1, 0), 7);
        CHECK.due("again", x.chance(1, 1, 0), 7);
        CHECK.due("never", x.chance(1, 99, 2), 0);
        CHECK.due("no mistakes in sight", Check.of(two).chance(1, 1, 0), 0);
        CHECK.due("in two days without mistakes", Check.of(two).chance(1, 2, 0), 10);
        CHECK.due("mistakes alone", Check.of(two + "slip 100;").chance(1, 1, 0), 10);
        CHECK.due("slip 38", Check.of(two + "slip 38;").chance(1, 1, 0), 6);
        CHECK.due("a day as claimed", Check.of(two + "slip 50;claim a 0;").chance(1, 1, 0), 0);
        // The claimed day draws no number; of these ten the second days have mistakes on a list that waits at 0.
        CHECK.due("a day as claimed, one as drawn", Check.of(two + "slip 50;claim a 0;").chance(1, 2, 0), 7);
        x.appoint(1);
        CHECK.due("who is appointed", x.chance(1, 1, 0), 10);
        x.undo();
        x.go(1);
        x.go(1);
        x.go(1);
        CHECK.due("nothing is done by looking", x.count(5), 3);
        DayOpeners y = Check.of("trade a 4 0;trade b 14 0;turn a;turn b;work w 20 20 1;slip 50;");
        CHECK.due("not by mistake", y.chance(1, 1, 0), 3);
        CHECK.due("the highest seed", y.chance(Integer.MAX_VALUE, 1, 0) >= 0, true);
        CHECK.due("seed 0", y.chance(0, 1, 0) >= 0, true);
        y.go(40);
        CHECK.due("done now", y.chance(5, 1, 0), 10);
        for (int no : new int[] {-1, 1, 5, 6, Integer.MAX_VALUE, Integer.MIN_VALUE}) {
            CHECK.due("no work " + no, y.chance(1, 1, no), -1);
        }
        for (int no : new int[] {-1, 0, 100, 101, Integer.MAX_VALUE, Integer.MIN_VALUE}) {
            CHECK.due("no days " + no, y.chance(1, no, 0), -1);
        }
        CHECK.due("no seed", y.chance(-1, 1, 0), -1);
        CHECK.due("no seed", y.chance(Integer.MIN_VALUE, 1, 0), -1);
        CHECK.due("99 days", y.chance(1, 99, 0), 10);
        DayOpeners z = Check.of(two + "slip 50;seed 1;");
        z.chance(5, 9, 0);
        z.go(10);
        CHECK.due("its own numbers stay", z.count(8), 7);
    }

    private static void tries() {
        String two = "trade a 4 0;trade b 14 0;turn a;turn b;work w 20 20 1;work v 10 10 1;work u 24 24 1;";
        DayOpeners x = Check.of(two + "claim b 0;slip 60;");
        CHECK.due("as it goes", x.ahead(3, 0, 0), 1);
        CHECK.due("no mistakes", x.tried(0, 0, 2), 2);
        CHECK.due("mistakes", x.tried(1, 0, 3), 1);
        CHECK.due("b never wills, but claims", x.tried(2, 1, 1), 1);
        CHECK.due("b never wills, but claims", x.tried(2, 1, 2), 2);
        CHECK.due("a never wills", x.tried(2, 0, 3), 1);
        CHECK.due("no claims", x.tried(3, 0, 9), 1);
        CHECK.due("all hours 0", x.tried(4, 0, 1), 1);
        CHECK.due("no days", x.tried(4, 0, 0), 0);
        CHECK.due("200 days", x.tried(0, 0, 200), 2);
        DayOpeners y = Check.of(two + "claim a 0;");
        CHECK.due("no mistakes are told", y.tried(0, 0, 2), y.ahead(2, 0, 0));
        CHECK.due("mistakes though none are told", y.tried(1, 0, 2), 2);
        CHECK.due("mistakes though none are told", Check.of(two).tried(1, 0, 3), 1);
        CHECK.due("without mistakes", Check.of(two).ahead(3, 0, 0), 2);
        CHECK.due("slip 49, no mistakes", Check.of(two + "slip 49;").tried(0, 0, 1), 1);
        CHECK.due("no claims: a, then b", y.tried(3, 0, 2), 2);
        CHECK.due("with claims: a twice", y.ahead(2, 0, 0), 1);
        DayOpeners z = Check.of("trade a 4 0;trade b 14 0;turn a;work w 20 20 1;work v 10 10 1;work u 24 24 1;claim a 1;");
        CHECK.due("a never wills: dark, then by claim", z.tried(2, 0, 1), 0);
        CHECK.due("a never wills: dark, then by claim", z.tried(2, 0, 2), 1);
        z.appoint(0);
        CHECK.due("a never wills, but is appointed", z.tried(2, 0, 1), 1);
        z.go(1);
        CHECK.due("what is done counts", z.tried(4, 0, 1), 2);
        DayOpeners h = Check.of("trade a 4 0;turn a;work w 1 1 1;law length hour+1;");
        CHECK.due("hour, too", h.tried(4, 0, 1), 1);
        CHECK.due("hour as told", h.ahead(1, 0, 0), 0);
        CHECK.due("hours stay as told", h.length(0), 5);
        DayOpeners w = Check.of("trade a 4 0;turn a;work w 20 20 1;law will hour<>0;");
        CHECK.due("hour, too, by will", w.tried(4, 0, 1), 0);
        for (int no : new int[] {-1, 5, 6, Integer.MAX_VALUE, Integer.MIN_VALUE}) {
            CHECK.due("tried " + no, x.tried(no, 0, 1), -1);
        }
        for (int no : new int[] {-1, 201, Integer.MAX_VALUE, Integer.MIN_VALUE}) {
            CHECK.due("tried for " + no, x.tried(0, 0, no), -1);
        }
        for (int no : new int[] {-1, 2, 6, Integer.MAX_VALUE, Integer.MIN_VALUE}) {
            CHECK.due("tried without trade " + no, x.tried(2, no, 1), -1);
        }
        for (int what : new int[] {0, 1, 3, 4}) {
            CHECK.due("tried " + what + " with 1", x.tried(what, 1, 1), -1);
            CHECK.due("tried " + what + " with -1", x.tried(what, -1, 1), -1);
        }
        CHECK.due("tried 2 without trades", new DayOpeners().tried(2, 0, 1), -1);
        CHECK.due("tried 4 without trades", new DayOpeners().tried(4, 0, 1), 0);
    }

    public static void main(String[] args) {
        sures();
        chances();
        tries();
        CHECK.ends();
    }
}
