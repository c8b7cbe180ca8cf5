/** Promises 1 to 5: a new object, feed, text, fault, named. */
public final class TextTest {
    private static final Check CHECK = new Check();

    private static void newObject() {
        DayOpeners x = new DayOpeners();
        for (int what = 0; what <= 13; what++) {
            CHECK.due("count(" + what + ") of a new object", x.count(what), 0);
        }
        CHECK.due("fault(0) of a new object", x.fault(0), 0);
        CHECK.due("fault(1) of a new object", x.fault(1), -1);
        CHECK.due("text(1) of a new object", x.text(1), -2);
        CHECK.due("text(0) of a new object", x.text(0), 0);
        CHECK.due("opener(0) of a new object", x.opener(0), -2);
        CHECK.due("back() of a new object", x.back(), -1);
        CHECK.due("first feed", x.feed(0, 0, 0, 0, 0), 20);
    }

    private static void feeds() {
        DayOpeners x = new DayOpeners();
        for (int i = 1; i <= 35; i++) {
            CHECK.due("feed " + i, x.feed(0x20202020, 0x20202020, 0x20202020, 0x20202020, 0x20202020), 20 * i);
        }
        CHECK.due("feed 36", x.feed(-1, -1, -1, -1, -1), -1);
        CHECK.due("feed 37", x.feed(-1, -1, -1, -1, -1), -1);
        CHECK.due("text(701)", x.text(701), -2);
        CHECK.due("text(700) of blanks", x.text(700), 0);
        // "slip 7;" stands in two numbers, the highest byte first.
        CHECK.due("feed behind it", x.feed(0x736c6970, 0x20373b20, 0x20202020, 0x20202020, 0x20202020), 20);
        CHECK.due("text of it", x.text(20), 1);
        CHECK.due("slip of it", x.sure(1, 0), 93);
        CHECK.due("feed of high bytes", x.feed(0x736c6970, 0x20373bff, -1, -1, -1), 20);
        CHECK.due("text ahead of the high bytes", x.text(7), 1);
        CHECK.due("feed of high bytes", x.feed(0x736c6970, 0x20373bff, -1, -1, -1), 20);
        CHECK.due("text with a high byte", x.text(8), -1);
        CHECK.due("fault of a high byte", x.fault(0), 1);
        CHECK.due("place of a high byte", x.fault(1), 7);
        CHECK.due("feed of 0s", x.feed(0, 0, 0, 0, 0), 20);
        CHECK.due("text of 0s", x.text(1), -1);
        CHECK.due("place of 0s", x.fault(1), 0);
    }

    private static void texts() {
        DayOpeners x = new DayOpeners();
        String s = "trade a 1 2;trade b 3 4;turn a;turn b;claim b 2;work w 1 2 3;slip 10;seed 5;law fame 2;";
        CHECK.due("lines", Check.tell(x, s), 9);
        x.go(4);
        x.appoint(1);
        x.put(0, 1);
        x.note(1, 1, true);
        x.toldBy(0);
        x.keep();
        Check.feed(x, "trade a 1 2; turn c;");
        CHECK.due("text(21)", x.text(21), -2);
        CHECK.due("text(-1)", x.text(-1), -2);
        CHECK.due("text(smallest)", x.text(Integer.MIN_VALUE), -2);
        CHECK.due("text(highest)", x.text(Integer.MAX_VALUE), -2);
        CHECK.due("fault(0) stays behind -2", x.fault(0), 0);
        CHECK.due("text(20)", x.text(20), -1);
        CHECK.due("fault(0)", x.fault(0), 4);
        CHECK.due("fault(1)", x.fault(1), 18);
        CHECK.due("the tape is empty behind a fault", x.text(1), -2);
        CHECK.due("fault(1) stays behind -2", x.fault(1), 18);
        long[] want = {2, 2, 1, 1, 1, 4, x.count(6), 0, x.count(8), 0, 8, 1, 0, 2};
        for (int what = 0; what < want.length; what++) {
            CHECK.due("all stays behind a fault: count " + what, x.count(what), want[what]);
        }
        CHECK.due("the image stays behind a fault", x.back(), 4);
        x.put(0, 1);
        CHECK.due("the same text again", Check.tell(x, s), 9);
        CHECK.due("fault(0) again", x.fault(0), 0);
        CHECK.due("fault(1) again", x.fault(1), -1);
        for (int what = 5; what <= 13; what++) {
            CHECK.due("all begins anew: count " + what, x.count(what), 0);
        }
        CHECK.due("all begins anew: image", x.back(), -1);
        CHECK.due("all begins anew: undo", x.undo(), -1);
        CHECK.due("all begins anew: list", x.place(0), 0);
        CHECK.due("all begins anew: appointed", x.opener(0), 0);
        CHECK.due("all begins anew: opened", x.trade(1, 3), 0);
        CHECK.due("all begins anew: last", Check.of("trade a 1 1;turn a;law length last+1;").longAt(0), 1);
        x.note(1, 1, true);
        CHECK.due("all begins anew: told by all", x.count(12), 1);
        Check.feed(x, "slip 3;seed 4;");
        CHECK.due("a part of the tape", x.text(7), 1);
        CHECK.due("the whole tape is gone", x.text(1), -2);
        CHECK.due("no trades left", x.count(0), 0);
        CHECK.due("a text of blanks", Check.tell(x, " \n \n"), 0);
        CHECK.due("blanks where they need not be", Check.tell(x, "\ntrade\na5 3;turn a ;work w1 2 3;law will(1)or(2);"), 4);
        CHECK.due("its hour", x.trade(0, 0), 5);
        for (String cut : new String[] {"slip 1|2;", "trade a|bc 1 1;", "law will 1<|=2;", "law will 1|0;"}) {
            Check.feed(x, cut.replace("|", ""));
            CHECK.due("text of a part of the tape, " + cut, x.text(cut.indexOf('|')), -1);
            CHECK.due("what stands behind it isn't read, " + cut, x.fault(1), cut.indexOf('|'));
        }
        CHECK.due("leading noughts", Check.tell(x, "trade a 00000000000000000023 0009;seed 0000000099999;"), 2);
        CHECK.due("its hour", x.trade(0, 0), 23);
        CHECK.due("its manner", x.trade(0, 1), 9);
    }

    /** An object that has had other texts, with faults and without, takes the next one as a new object does. */
    private static void textsAgain() {
        DayOpeners x = new DayOpeners();
        String full = "trade a 1 2;trade b 3 4;turn a;turn b;claim b 2;work w 23 23 2;slip 100;seed 5;law length 20;"
            + "law fame 2;law will date<9;";
        for (int i = 0; i < 3; i++) {
            CHECK.due("lines of a text told often", Check.tell(x, full), 11);
            x.go(20);
            CHECK.due("dark of it", x.count(9), 11);
            CHECK.due("mistakes of it", x.count(8), 19);
        }
        for (int i = 0; i < 3; i++) {
            CHECK.due("lines of a small text", Check.tell(x, "trade c 1 1;work w 23 23 2;"), 2);
            long[] want = {1, 0, 0, 1, 0, 0, 0, 0, 0, 0, 0, 0, 0, 0};
            for (int what = 0; what < want.length; what++) {
                CHECK.due("count " + what + " of a small text", x.count(what), want[what]);
            }
            CHECK.due("slip of a small text", x.sure(1, 0), 1);
            CHECK.due("no law of a small text", x.law(0, 0), Long.MIN_VALUE);
            CHECK.due("work of a small text", x.work(0, 3), 0);
            x.appoint(0);
            x.go(1);
        }
        CHECK.due("a seed", Check.tell(x, "trade a 1 1;turn a;slip 50;seed 1;"), 4);
        for (int i = 0; i < 3; i++) {
            CHECK.due("no seed", Check.tell(x, "trade a 1 1;turn a;slip 50;"), 3);
        }
        x.go(1);
        CHECK.due("no seed is 0", x.count(8), 1);
        for (String spoilt : new String[] {"law will ((((((((1;", "law will 1+2*(3+4*(", "law will not not 5<7+", "slip 5;seed"}) {
            CHECK.due("a fault of " + spoilt, Check.tell(x, spoilt), -1);
            CHECK.due("a text behind it", Check.tell(x, "trade a 1 1;law will 1+((((((((2))))))));slip 5;seed 5;"), 4);
            CHECK.due("its knots", x.count(4), 3);
            CHECK.due("its law", x.law(2, 0), 3);
        }
        String most = "law will 1" + Check.times(31, "+1") + ";law fame 1;";
        for (int i = 0; i < 3; i++) {
            CHECK.due("64 knots again", Check.tell(x, most), 2);
            CHECK.due("64 knots again", x.count(4), 64);
        }
    }

    private static void faultsOfTokens() {
        CHECK.fault("trade", 1, 5);
        CHECK.fault("trade \n ", 1, 8);
        CHECK.fault("trade a 5 3", 1, 11);
        CHECK.fault("trade a 5 ;", 1, 10);
        CHECK.fault(";", 1, 0);
        CHECK.fault("trade a 5 3;;", 1, 12);
        CHECK.fault("5 trade a 5 3;", 1, 0);
        CHECK.fault("a 5 3;", 1, 0);
        CHECK.fault("length 5;", 1, 0);
        CHECK.fault("not 5;", 1, 0);
        CHECK.fault("Trade a 5 3;", 1, 0);
        CHECK.fault("trade a 5 3;\ttrade b 5 3;", 1, 12);
        CHECK.fault("trade a_ 5 3;", 1, 7);
        CHECK.fault("trade abcdefg 5 3;", 1, 6);
        CHECK.fault("trades abcdef 5 3;", 1, 0);
        CHECK.fault("tradeabc 5 3;", 1, 0);
        CHECK.fault("trade turn 5 3;", 1, 6);
        CHECK.fault("trade or 5 3;", 1, 6);
        CHECK.fault("trade date 5 3;", 1, 6);
        CHECK.fault("trade 5 5 3;", 1, 6);
        CHECK.fault("trade a b 3;", 1, 8);
        CHECK.fault("trade a 5 b;", 1, 10);
        CHECK.fault("trade a 5 3 1;", 1, 12);
        CHECK.fault("trade a -5 3;", 1, 8);
        CHECK.fault("turn;", 1, 4);
        CHECK.fault("turn trade;", 1, 5);
        CHECK.fault("turn abcdefg;", 1, 5);
        CHECK.fault("claim 5;", 1, 6);
        CHECK.fault("work will 1 1 1;", 1, 5);
        CHECK.fault("work a 1 1 ;", 1, 11);
        CHECK.fault("slip;", 1, 4);
        CHECK.fault("slip a;", 1, 5);
        CHECK.fault("seed", 1, 4);
        CHECK.fault("law;", 1, 3);
        CHECK.fault("law hour 1;", 1, 4);
        CHECK.fault("law a 1;", 1, 4);
        CHECK.fault("law 1;", 1, 4);
        CHECK.fault("law 8 1;", 1, 4);
        CHECK.fault("law turn 1;", 1, 4);
        CHECK.fault("law or 1;", 1, 4);
        CHECK.fault("law (1);", 1, 4);
        CHECK.fault("law", 1, 3);
        String[] words = ("trade turn claim work slip seed law length fame will or and not hour manner known opened left"
            + " last date").split(" ");
        for (String word : words) {
            CHECK.fault("work " + word + " 1 1 1;", 1, 5);
        }
    }

    private static void faultsOfFormulas() {
        CHECK.fault("law will;", 1, 8);
        CHECK.fault("law will ", 1, 9);
        CHECK.fault("law will 1", 1, 10);
        CHECK.fault("law will 1 +", 1, 12);
        CHECK.fault("law will 1 +;", 1, 12);
        CHECK.fault("law will 1 2;", 1, 11);
        CHECK.fault("law will 1 hour;", 1, 11);
        CHECK.fault("law will slip;", 1, 9);
        CHECK.fault("law will a;", 1, 9);
        CHECK.fault("law will -1;", 1, 9);
        CHECK.fault("law will or 1;", 1, 9);
        CHECK.fault("law will 1 or or 1;", 1, 14);
        CHECK.fault("law will 1 < 2 < 3;", 1, 15);
        CHECK.fault("law will 1 + 2 = 3 + 4 <= 5;", 1, 23);
        CHECK.fault("law will (1 < 2) = 3 < 4;", 1, 21);
        CHECK.fault("law will 1 + not 2;", 1, 13);
        CHECK.fault("law will 1 = not 2;", 1, 13);
        CHECK.fault("law will 1 not 2;", 1, 11);
        CHECK.fault("law will not;", 1, 12);
        CHECK.fault("law will (1;", 1, 11);
        CHECK.fault("law will 1);", 1, 10);
        CHECK.fault("law will ();", 1, 10);
        CHECK.fault("law will 1(2);", 1, 10);
        CHECK.fault("law will (1)(2);", 1, 12);
        CHECK.fault("law will (1 or);", 1, 14);
        CHECK.fault("law will 1 < = 2;", 1, 13);
        CHECK.fault("law will 1 >< 2;", 1, 12);
        CHECK.fault("law will 1 => 2;", 1, 12);
        CHECK.fault("law will 1 == 2;", 1, 12);
        CHECK.fault("law will 1 <>= 2;", 1, 13);
        CHECK.fault("law will 1 ! 2;", 1, 11);
        CHECK.fault("law will 1,;", 1, 10);
    }

    private static void faultsOfTooMuch() {
        CHECK.fault("trade a 24 3;", 2, 8);
        CHECK.fault("trade a 23 10;", 2, 11);
        CHECK.fault("trade a 99999999999999999999999 10;", 2, 8);
        CHECK.fault("trade a 4294967296 1;", 2, 8);
        CHECK.fault("work a 25 24 1;", 2, 7);
        CHECK.fault("work a 0 25 1;", 2, 9);
        CHECK.fault("work a 0 24 0;", 2, 12);
        CHECK.fault("work a 0 24 10;", 2, 12);
        CHECK.fault("slip 101;", 2, 5);
        CHECK.fault("seed 100000;", 2, 5);
        CHECK.fault("trade a 5 3;claim a 100;", 2, 20);
        CHECK.fault("law will 10000;", 2, 9);
        CHECK.fault("law will 1 or 99999999999;", 2, 14);
        String six = "trade a 5 3;trade b 5 3;trade c 5 3;trade d 5 3;trade e 5 3;trade f 5 3;";
        CHECK.fault(six + "trade a 99 3;", 2, 72);
        CHECK.fault(six + "trade", 2, 72);
        CHECK.fault(six + Check.times(12, "turn a;") + "turn g;", 2, 72 + 84);
        String claims = "claim a 0;claim a 1;claim a 2;claim a 3;claim a 4;claim a 5;claim a 6;claim a 7;claim a 8;";
        CHECK.fault(six + claims + "claim b 9;claim a 9;", 2, 72 + 100);
        String works = "work a 1 1 1;work b 1 1 1;work c 1 1 1;work d 1 1 1;work e 1 1 1;";
        CHECK.fault(works + "work a 1 1 1;", 2, 65);
        CHECK.fault("law will (((((((((1)))))))));", 2, 17);
        CHECK.fault("law will ((((((((1+(2)))))))));", 2, 19);
        CHECK.fault("law will not(not(not(not(not(not(not(not(not(1)))))))));", 2, 9 + 32 + 3);
        DayOpeners x = Check.of(six + Check.times(12, "turn a;") + claims + "claim b 9;" + works + "slip 100;seed 99999;");
        CHECK.due("as many trades as may be", x.count(0), 6);
        CHECK.due("as many places as may be", x.count(1), 12);
        CHECK.due("as many claims as may be", x.count(2), 10);
        CHECK.due("as many works as may be", x.count(3), 5);
        x = Check.of("trade a 0 0;trade b 23 9;claim a 99;work w 24 0 9;work v 0 24 1;law will ((((((((9999))))))))+(1)+((1));");
        CHECK.due("the edges of numbers", x.law(2, 1), 10001);
    }

    private static void faultsOfKnots() {
        String most = "law will 1" + Check.times(31, "+1") + ";";
        CHECK.due("64 knots", Check.of(most + "law fame 1;").count(4), 64);
        CHECK.fault(most + "law fame 1+1;", 2, 83);
        CHECK.fault(most + "law fame not 1;", 2, 86);
        CHECK.fault(most + "law fame (1) or 1;", 2, 86);
        CHECK.fault(most + "law fame 1 <> 1;", 2, 84);
        CHECK.fault(most + "law fame 1;law length date;", 2, 95);
        CHECK.fault(most + "law fame date;law length date;", 2, 98);
        CHECK.fault("law will hour" + Check.times(31, "*last") + ";law fame not not date;", 2, 182);
        CHECK.fault(most + "law fame 1;law length not date;", 2, 95);
        // Of one place the least kind: what can't stand there goes ahead of what is too much.
        CHECK.fault(most + "law fame 1 not;", 1, 84);
        CHECK.fault(most + "law fame 1;law length or;", 1, 95);
        CHECK.fault(most + "law fame 1;law length (((((((((1;", 2, 103);
        String nots = "law will " + Check.times(63, "not ") + "1;";
        DayOpeners x = Check.of("trade a 1 1;" + nots);
        CHECK.due("63 times not, and one", x.count(4), 64);
        CHECK.due("63 times not of one", x.law(2, 0), 0);
        CHECK.fault("law will " + Check.times(64, "not ") + "1;", 2, 9 + 256);
    }

    private static void faultsOfAgainAndUntold() {
        CHECK.fault("trade a 5 3;trade a 5 3;", 3, 18);
        CHECK.fault("work a 5 3 1;work a 5 3 1;", 3, 18);
        CHECK.fault("trade a 5 3;claim a 5;claim a 5;", 3, 30);
        CHECK.fault("trade a 5 3;trade b 5 3;claim a 5;claim b 005;", 3, 42);
        CHECK.fault("slip 5;slip 5;", 3, 7);
        CHECK.fault("slip 0;slip", 3, 7);
        CHECK.fault("seed 5;seed 5;", 3, 7);
        CHECK.fault("seed 0;seed 5;", 3, 7);
        CHECK.fault("law will 1;law fame 1;law will 1;", 3, 26);
        CHECK.fault("law length 1;law length", 3, 17);
        CHECK.fault("turn a;", 4, 5);
        CHECK.fault("turn a;trade a 5 3;", 4, 5);
        CHECK.fault("claim a 500;", 4, 6);
        CHECK.fault("work a 1 1 1;turn a;", 4, 18);
        DayOpeners x = Check.of("trade a 5 3;work a 1 1 1;slip 1;law will 1;law fame 2;law length 3;seed 1;");
        CHECK.due("names are of their kind", x.count(3), 1);
    }

    private static void faultOf() {
        DayOpeners x = new DayOpeners();
        Check.tell(x, "slip");
        CHECK.due("fault(0)", x.fault(0), 1);
        CHECK.due("fault(1)", x.fault(1), 4);
        for (int what : new int[] {-1, 2, 3, Integer.MAX_VALUE, Integer.MIN_VALUE}) {
            CHECK.due("fault of another what with a fault", x.fault(what), -1);
        }
        x.text(0);
        CHECK.due("fault(0) is gone", x.fault(0), 0);
        CHECK.due("fault(1) is gone", x.fault(1), -1);
    }

    private static void named() {
        DayOpeners x = Check.of("trade b 1 1;trade ba 1 1;trade zzzzzz 1 1;work wall 1 1 1;work b 1 1 1;");
        CHECK.due("named b", x.named(0, 2 << 25), 0);
        CHECK.due("named ba", x.named(0, Check.letters("ba")), 1);
        CHECK.due("named zzzzzz", x.named(0, Check.letters("zzzzzz")), 2);
        CHECK.due("work wall", x.named(1, Check.letters("wall")), 0);
        CHECK.due("work b", x.named(1, Check.letters("b")), 1);
        CHECK.due("no trade wall", x.named(0, Check.letters("wall")), -1);
        CHECK.due("no work ba", x.named(1, Check.letters("ba")), -1);
        CHECK.due("b lowest", x.named(0, 2), -1);
        CHECK.due("no letters", x.named(0, 0), -1);
        CHECK.due("beyond six letters", x.named(0, 2 << 25 | 1 << 30), -1);
        CHECK.due("below 0", x.named(1, -1), -1);
        CHECK.due("what 2", x.named(2, 2 << 25), -1);
        CHECK.due("what -1", x.named(-1, 2 << 25), -1);
        Check.tell(x, "slip 1;");
        CHECK.due("named b is gone", x.named(0, 2 << 25), -1);
        CHECK.due("work b is gone", x.named(1, 2 << 25), -1);
    }

    public static void main(String[] args) {
        newObject();
        feeds();
        texts();
        textsAgain();
        faultsOfTokens();
        faultsOfFormulas();
        faultsOfTooMuch();
        faultsOfKnots();
        faultsOfAgainAndUntold();
        faultOf();
        named();
        CHECK.ends();
    }
}
