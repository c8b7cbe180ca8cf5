/** Promises 15 to 21: ahead, opener, longAt, doneWhen, soon, out, missing. */
public final class AheadTest {
    private static final Check CHECK = new Check();
    private static final int[] NO_DAYS = {-1, 201, 202, Integer.MAX_VALUE, Integer.MIN_VALUE};
    private static final int[] NO_INDEX = {-1, 6, 7, 64, Integer.MAX_VALUE, Integer.MIN_VALUE};

    /** Opened by a, b, dark, a, b and so on; the third date of the first round is claimed by c. */
    private static DayOpeners rounds() {
        return Check.of("trade a 4 0;trade b 14 0;trade c 23 9;turn a;turn b;claim c 2;work w 10 10 3;work v 1 1 1;work u 2 3 1;"
            + "law will date<2 or date-date/3*3<>2;law fame manner+2;");
    }

    private static void openers() {
        DayOpeners x = rounds();
        int[] who = {0, 1, 2, 0, 1, -2, 0, 1, -2, 0};
        int[] length = {20, 10, 1, 20, 10, -2, 20, 10, -2, 20};
        for (int n = 0; n < who.length; n++) {
            CHECK.due("opener " + n, x.opener(n), who[n]);
            CHECK.due("long at " + n, x.longAt(n), length[n]);
        }
        CHECK.due("nothing is done by looking", x.count(5), 0);
        CHECK.due("opener 200", x.opener(200), -2);
        CHECK.due("opener 199", x.opener(199), 1);
        CHECK.due("long at 200", x.longAt(200), -2);
        for (int no : NO_DAYS) {
            CHECK.due("opener " + no, x.opener(no), -1);
            CHECK.due("long at " + no, x.longAt(no), -1);
        }
        x.appoint(2);
        CHECK.due("who is appointed", x.opener(0), 2);
        CHECK.due("its length", x.longAt(0), 1);
        CHECK.due("the list waits", x.opener(1), 0);
        x.go(2);
        CHECK.due("this day now", x.opener(0), 2);
        CHECK.due("the day behind it", x.opener(1), 1);
        DayOpeners y = Check.of("trade a 4 0;trade b 14 0;turn a;turn b;slip 50;seed 1;");
        CHECK.due("slip 50: a mistake as it goes", y.opener(0), 1);
        CHECK.due("slip 50: each day", y.opener(1), 1);
        y = Check.of("trade a 4 0;trade b 14 0;turn a;turn b;slip 49;seed 1;");
        CHECK.due("slip 49: none as it goes", y.opener(0), 0);
        CHECK.due("slip 49: none as it goes", y.opener(1), 1);
        y = Check.of("trade a 24 0;".replace("24", "23") + "turn a;law length date*0;");
        CHECK.due("length 0 isn't dark", y.longAt(3), 0);
    }

    private static void aheads() {
        DayOpeners x = rounds();
        CHECK.due("done ahead of all", x.ahead(0, 0, 0), 0);
        CHECK.due("done behind 3", x.ahead(3, 0, 0), 1);
        CHECK.due("done behind 7", x.ahead(7, 0, 0), 1);
        CHECK.due("done behind 8", x.ahead(8, 0, 0), 2);
        CHECK.due("done behind 200", x.ahead(200, 0, 0), 2);
        CHECK.due("known of a", x.ahead(7, 1, 0), 6);
        CHECK.due("known of c", x.ahead(7, 1, 2), 9);
        CHECK.due("dark", x.ahead(9, 2, 0), 2);
        CHECK.due("mistakes", x.ahead(9, 3, 0), 0);
        CHECK.due("lengths", x.ahead(9, 4, 0), 91);
        CHECK.due("missing", x.missing(9), 2);
        CHECK.due("missing 0", x.missing(0), 0);
        x.go(6);
        CHECK.due("done then, with those done", x.ahead(0, 0, 0), 1);
        CHECK.due("known now", x.ahead(0, 1, 2), 9);
        CHECK.due("dark of these days alone", x.ahead(3, 2, 0), 1);
        CHECK.due("missing of these days alone", x.missing(3), 1);
        CHECK.due("missing of 200", x.missing(200), 66);
        CHECK.due("lengths of these days alone", x.ahead(3, 4, 0), 30);
        CHECK.due("nothing is done by looking", x.count(5), 6);
        for (int no : NO_INDEX) {
            CHECK.due("known of no trade " + no, x.ahead(1, 1, no), -1);
            CHECK.due("the trade isn't looked at", x.ahead(3, 0, no), 2);
            CHECK.due("the trade isn't looked at", x.ahead(3, 2, no), 1);
            CHECK.due("the trade isn't looked at", x.ahead(3, 3, no), 0);
            CHECK.due("the trade isn't looked at", x.ahead(3, 4, no), 30);
        }
        CHECK.due("known of trade 3", x.ahead(1, 1, 3), -1);
        for (int no : NO_DAYS) {
            CHECK.due("ahead " + no, x.ahead(no, 0, 0), -1);
            CHECK.due("missing " + no, x.missing(no), -1);
        }
        for (int no : new int[] {-1, 5, 6, Integer.MAX_VALUE, Integer.MIN_VALUE}) {
            CHECK.due("ahead what " + no, x.ahead(1, no, 0), -1);
        }
        DayOpeners y = Check.of("trade a 4 0;turn a;slip 50;seed 1;");
        y.go(10);
        CHECK.due("mistakes so far", y.count(8), 7);
        CHECK.due("mistakes more as it goes", y.ahead(10, 3, 0), 10);
        y.appoint(0);
        CHECK.due("none on a day with an appointed one", y.ahead(10, 3, 0), 9);
        CHECK.due("slip 49", mistakesOf("slip 49;"), 0);
        CHECK.due("slip 50", mistakesOf("slip 50;"), 9);
        CHECK.due("slip 100", mistakesOf("slip 100;"), 9);
        CHECK.due("without slip", mistakesOf(""), 0);
    }

    private static int mistakesOf(String slip) {
        return Check.of("trade a 4 0;turn a;claim a 3;" + slip).ahead(10, 3, 0);
    }

    private static void doneWhens() {
        DayOpeners x = rounds();
        CHECK.due("done when: w", x.doneWhen(0), 8);
        CHECK.due("done when: v", x.doneWhen(1), 3);
        CHECK.due("done when: u", x.doneWhen(2), -2);
        CHECK.due("no work 3", x.doneWhen(3), -1);
        for (int no : NO_INDEX) {
            CHECK.due("no work " + no, x.doneWhen(no), -1);
        }
        x.go(3);
        CHECK.due("done when: v is", x.doneWhen(1), 0);
        CHECK.due("done when: w now", x.doneWhen(0), 5);
        DayOpeners y = Check.of("trade a 4 0;turn a;work w 20 20 1;law will date>=198;");
        CHECK.due("by 199 days", y.doneWhen(0), 199);
        CHECK.due("soon by 199 days", y.soon(0), 199);
        y = Check.of("trade a 4 0;turn a;work w 20 20 1;law will date>=199;");
        CHECK.due("not by 199 days", y.doneWhen(0), -2);
        CHECK.due("soon: not by 199 days", y.soon(0), -2);
    }

    private static void soons() {
        DayOpeners x = rounds();
        CHECK.due("soon a", x.soon(0), 1);
        CHECK.due("soon b", x.soon(1), 2);
        CHECK.due("soon c", x.soon(2), 3);
        CHECK.due("no trade 3", x.soon(3), -1);
        for (int no : NO_INDEX) {
            CHECK.due("soon " + no, x.soon(no), -1);
            CHECK.due("out " + no, x.out(no), -1);
        }
        x.go(3);
        CHECK.due("soon c, who opened", x.soon(2), -2);
        x.appoint(2);
        CHECK.due("soon c, appointed", x.soon(2), 1);
    }

    private static void outs() {
        DayOpeners x = rounds();
        CHECK.due("out a", x.out(0), 2);
        CHECK.due("out b", x.out(1), 2);
        CHECK.due("out c, behind its date", x.out(2), 57);
        CHECK.due("no trade 3", x.out(3), -1);
        x.go(3);
        CHECK.due("out c", x.out(2), 60);
        DayOpeners y = Check.of("trade a 4 0;trade b 4 0;turn a;law will date<30 or date>=90;claim b 59;claim b 60;");
        CHECK.due("out a within 60 days", y.out(0), 30);
        CHECK.due("out b within 60 days", y.out(1), 59);
        CHECK.due("out of one who opens all", Check.of("trade a 4 0;turn a;").out(0), 0);
    }

    public static void main(String[] args) {
        openers();
        aheads();
        doneWhens();
        soons();
        outs();
        CHECK.ends();
    }
}
