/** Terms, and promises 1 to 5: each sentence that names an edge has a method of its own, in the document's order. */
public final class TextEdgesTest {
    private static final Check CHECK = new Check();
    private static final String[] LANGUAGE = ("trade turn claim work slip seed law length fame will or and not hour manner"
        + " known opened left last date").split(" ");
    private static final String SIX = "trade a 0 0;trade b 1 1;trade c 2 2;trade d 3 3;trade e 4 4;trade f 5 5;";
    private static final String FIVE = "work a 1 1 1;work b 2 2 2;work c 3 3 3;work d 4 4 4;work e 5 6 7;";

    /** A text without a fault, of so many lines. */
    private static DayOpeners right(String text, int lines) {
        DayOpeners x = new DayOpeners();
        CHECK.due("lines of " + text, Check.tell(x, text), lines);
        CHECK.due("no fault of " + text, x.fault(0), 0);
        CHECK.due("no place of a fault of " + text, x.fault(1), -1);
        return x;
    }

    /** A TEXT: { LINE ';' }: there may be none; each ends with its own sign. */
    private static void lines() {
        right("", 0);
        right(" ", 0);
        right("slip 1;", 1);
        CHECK.fault(";", 1, 0);
        CHECK.fault("slip 1;;", 1, 7);
        CHECK.fault("slip 1", 1, 6);
        CHECK.fault("slip 1 seed 1;", 1, 7);
    }

    /** W: one of 1 .. 6 letters. */
    private static void letters() {
        right("trade a 5 3;turn a;claim a 1;work a 1 1 1;", 4);
        right("trade abcdef 5 3;turn abcdef;claim abcdef 1;work abcdef 1 1 1;", 4);
        CHECK.fault("trade abcdefg 5 3;", 1, 6);
        CHECK.fault("trade abcdef 5 3;turn abcdefg;", 1, 22);
        CHECK.fault("trade abcdef 5 3;claim abcdefg 1;", 1, 23);
        CHECK.fault("work abcdefg 1 1 1;", 1, 5);
        CHECK.fault("trade 5 3;", 1, 6);
    }

    /** W: none of those of the language. */
    private static void notOfTheLanguage() {
        for (String word : LANGUAGE) {
            CHECK.fault("trade " + word + " 5 3;", 1, 6);
            CHECK.fault("turn " + word + ";", 1, 5);
            CHECK.fault("claim " + word + " 1;", 1, 6);
            CHECK.fault("work " + word + " 1 1 1;", 1, 5);
            if (word.length() < 6) {
                right("trade " + word + "z 5 3;work z" + word + " 1 1 1;", 2);
            }
            right("trade " + word.substring(1) + " 5 3;", 1);
        }
    }

    /** Words: small letters in a row. */
    private static void wordsEndWhereLettersEnd() {
        right("trade a5 3;turn a;slip7;seed 9;law will(1)and(not(0));", 5);
        CHECK.fault("tradea 5 3;", 1, 0);
        CHECK.fault("tr ade a 5 3;", 1, 0);
        CHECK.fault("Trade a 5 3;", 1, 0);
        CHECK.fault("trade aB 5 3;", 1, 7);
    }

    /** Blanks 10, 32: no other sign is one, and no other sign is a token where a line begins. */
    private static void blanks() {
        for (int sign = 0; sign < 256; sign++) {
            String s = String.valueOf((char) sign);
            boolean blank = sign == 10 || sign == 32;
            if (blank) {
                right("slip 1;" + s, 1);
                right(s + "slip" + s + s + "1" + s + ";" + s, 1);
                CHECK.fault("sl" + s + "ip 1;", 1, 0);
                CHECK.fault("slip 1" + s + "0;", 1, 7);
                CHECK.fault("law will 1<" + s + "=2;", 1, 12);
            } else {
                CHECK.fault("slip 1;" + s, 1, 7);
                boolean digit = sign >= '0' && sign <= '9';
                boolean letter = sign >= 'a' && sign <= 'z';
                if (digit) {
                    right("slip" + s + "1;", 1);
                } else {
                    CHECK.fault("slip" + s + "1;", 1, letter ? 0 : 4);
                }
            }
        }
    }

    /** N: digits, however many. */
    private static void digits() {
        right("slip 00;seed 0;", 2);
        right("seed " + Check.times(600, "0") + "99999;", 1);
        CHECK.fault("seed " + Check.times(600, "0") + "100000;", 2, 5);
        CHECK.fault("seed " + Check.times(600, "9") + ";", 2, 5);
        CHECK.fault("slip 4294967296;", 2, 5);
        CHECK.fault("slip 4294967297;", 2, 5);
        CHECK.fault("slip 18446744073709551617;", 2, 5);
        CHECK.fault("slip 2147483648;", 2, 5);
        CHECK.fault("slip -1;", 1, 5);
    }

    /** N of E 0 .. 9999. */
    private static void numbersOfFormulas() {
        CHECK.due("0", right("trade a 0 0;law will 0;", 2).law(2, 0), 0);
        CHECK.due("9999", right("trade a 0 0;law will 9999;", 2).law(2, 0), 9999);
        CHECK.fault("law will 10000;", 2, 9);
        CHECK.fault("law will 1+10000;", 2, 11);
    }

    /** '=' (or '>' behind '<') right behind '<' or '>' belongs to it. */
    private static void signsOfTwo() {
        String[] signs = {"<", "<=", "=", "<>", ">=", ">"};
        for (String sign : signs) {
            DayOpeners x = right("trade a 0 0;law length 1" + sign + "2;law fame 2" + sign + "2;law will 3" + sign + "2;", 4);
            CHECK.due("1" + sign + "2", x.law(0, 0), sign.startsWith("<") ? 1 : 0);
            CHECK.due("2" + sign + "2", x.law(1, 0), sign.endsWith("=") ? 1 : 0);
            CHECK.due("3" + sign + "2", x.law(2, 0), sign.contains(">") ? 1 : 0);
            CHECK.due("knots of " + sign, x.count(4), 9);
            if (sign.length() == 2) {
                CHECK.fault("law will 1" + sign.charAt(0) + " " + sign.charAt(1) + "2;", 1, 12);
                CHECK.fault("law will 1" + sign.charAt(0) + "\n" + sign.charAt(1) + "2;", 1, 12);
            }
        }
        CHECK.fault("law will 1><2;", 1, 11);
        CHECK.fault("law will 1=<2;", 1, 11);
        CHECK.fault("law will 1=>2;", 1, 11);
        CHECK.fault("law will 1>>2;", 1, 11);
        CHECK.fault("law will 1<<2;", 1, 11);
        CHECK.fault("law will 1<=>2;", 1, 12);
        CHECK.fault("law will 1>==2;", 1, 12);
    }

    /** E, A, B, C, S, T, P: which of them may be had once, which as often as one likes, and where. */
    private static void formulas() {
        right("law will 1 or 2 or 3 and 4 and 5;law fame 1+2-3+4;law length 1*2/3*4;", 3);
        right("law will not not not 1;law fame not 1<2 and not 2<3 or not 4;", 2);
        CHECK.fault("law will 1<2<3;", 1, 12);
        CHECK.fault("law will 1+2<3*4=5;", 1, 16);
        right("law will (1<2)<3;law fame 1<(2<3);law length 1<2 and 2<3 or 3<4;", 3);
        CHECK.fault("law will 1+not 2;", 1, 11);
        CHECK.fault("law will 1*not 2;", 1, 11);
        CHECK.fault("law will 1<not 2;", 1, 11);
        right("law will 1+(not 2);law fame 1<(not 2);", 2);
        worth("1 or 0 and 0", 1);
        worth("(1 or 0) and 0", 0);
        worth("0 and (0 or 1)", 0);
        worth("0 and 0 or 1", 1);
        worth("not 0 and 0", 0);
        worth("not 1 or 1", 1);
        worth("not 2=1", 1);
        worth("not 1+1", 0);
        worth("3=1+2", 1);
        worth("1+2=3", 1);
        worth("2+3=5", 1);
        worth("5=2+3", 1);
        worth("2*3=6", 1);
        worth("2*3>5 and 5<2*3", 1);
        worth("1+2*3", 7);
        worth("2*3+1", 7);
        worth("9-3-2", 4);
        worth("9-3+2", 8);
        worth("90/9/2", 5);
        worth("9*4/6", 6);
        worth("9/6*4", 4);
        worth("9-(3-2)", 8);
        worth("(1+2)*3", 9);
        worth("2*(3+4)*5", 70);
        worth("(not 1)=0", 1);
        worth("not (1=0)", 1);
        worth("1<(2<1)", 0);
        worth("(1<2)<2", 1);
        CHECK.fault("law will +1;", 1, 9);
        CHECK.fault("law will *1;", 1, 9);
        CHECK.fault("law will <1;", 1, 9);
        CHECK.fault("law will and 1;", 1, 9);
        CHECK.fault("law will 1--1;", 1, 11);
        CHECK.fault("law will ();", 1, 10);
        CHECK.fault("law will );", 1, 9);
        CHECK.fault("law will (1));", 1, 12);
        CHECK.fault("law will (1;", 1, 11);
        CHECK.fault("law will 1 1;", 1, 11);
        CHECK.fault("law will 1 not;", 1, 11);
        CHECK.fault("law will turn;", 1, 9);
        CHECK.fault("law will length;", 1, 9);
        CHECK.fault("law will x;", 1, 9);
        CHECK.fault("law will;", 1, 8);
    }

    private static void worth(String e, long want) {
        CHECK.due("worth of " + e, right("trade a 0 0;law will " + e + ";", 2).law(2, 0), want);
    }

    /** TRADES, at most 6: HOUR 0 .. 23, MANNER 0 .. 9; their names are of their kind; numbered as they come. */
    private static void trades() {
        DayOpeners x = right("trade a 0 0;trade b 23 9;", 2);
        CHECK.due("lowest hour", x.trade(0, 0), 0);
        CHECK.due("lowest manner", x.trade(0, 1), 0);
        CHECK.due("highest hour", x.trade(1, 0), 23);
        CHECK.due("highest manner", x.trade(1, 1), 9);
        CHECK.fault("trade a 24 0;", 2, 8);
        CHECK.fault("trade a 0 10;", 2, 10);
        x = right(SIX, 6);
        for (int trade = 0; trade < 6; trade++) {
            CHECK.due("named " + trade, x.named(0, trade + 1 << 25), trade);
            CHECK.due("hour of " + trade, x.trade(trade, 0), trade);
            CHECK.due("manner of " + trade, x.trade(trade, 1), trade);
        }
        CHECK.fault(SIX + "trade g 0 0;", 2, 72);
        CHECK.fault(SIX + "trade f 0 0;", 2, 72);
        CHECK.fault(SIX + "trade", 2, 72);
        CHECK.fault("trade a 0 0;trade a 1 1;", 3, 18);
        CHECK.fault(SIX.substring(0, 60) + "trade a 1 1;", 3, 66);
        x = right("trade a 0 0;work a 1 1 1;", 2);
        CHECK.due("trade a", x.named(0, 1 << 25), 0);
        CHECK.due("work a", x.named(1, 1 << 25), 0);
    }

    /** LIST (turn): at most 12 PLACES, numbered from 0 on, each a TRADE. */
    private static void places() {
        DayOpeners x = right(SIX + Check.times(11, "turn a;") + "turn f;", 18);
        CHECK.due("twelve", x.count(1), 12);
        CHECK.due("the first one", x.place(0), 0);
        CHECK.due("the last but one", x.place(10), 0);
        CHECK.due("the last one", x.place(11), 5);
        CHECK.due("behind the last one", x.place(12), -1);
        CHECK.fault(SIX + Check.times(12, "turn a;") + "turn a;", 2, 72 + 84);
        CHECK.fault(SIX + Check.times(12, "turn a;") + "turn", 2, 72 + 84);
    }

    /** CLAIMS, at most 10: a TRADE, a DATE 0 .. 99 (each DATE once). */
    private static void claims() {
        StringBuilder ten = new StringBuilder();
        for (int date = 90; date < 100; date++) {
            ten.append("claim ").append(date == 99 ? 'f' : 'a').append(' ').append(date).append(';');
        }
        DayOpeners x = right(SIX + ten, 16);
        CHECK.due("ten", x.count(2), 10);
        CHECK.due("ahead of the first date", x.opener(89), -2);
        CHECK.due("the first date", x.opener(90), 0);
        CHECK.due("the last date", x.opener(99), 5);
        CHECK.due("behind the last date", x.opener(100), -2);
        CHECK.fault(SIX + ten + "claim a 0;", 2, 72 + 110);
        CHECK.fault(SIX + ten + "claim a 99;", 2, 72 + 110);
        CHECK.fault(SIX + ten + "claim", 2, 72 + 110);
        right("trade a 0 0;claim a 0;claim a 99;", 3);
        CHECK.fault("trade a 0 0;claim a 100;", 2, 20);
        CHECK.fault("trade a 0 0;claim a 0;claim a 0;", 3, 30);
        CHECK.fault(SIX + ten.substring(0, 99) + "claim b 90;", 3, 72 + 99 + 8);
    }

    /** WORKS, at most 5: a name, LOW, HIGH 0 .. 24, NEED 1 .. 9. */
    private static void works() {
        DayOpeners x = right("work a 0 0 1;work b 24 24 9;work c 24 0 1;", 3);
        for (int what = 0; what < 3; what++) {
            CHECK.due("the lowest, what " + what, x.work(0, what), new int[] {0, 0, 1}[what]);
            CHECK.due("the highest, what " + what, x.work(1, what), new int[] {24, 24, 9}[what]);
            CHECK.due("high below low, what " + what, x.work(2, what), new int[] {24, 0, 1}[what]);
        }
        CHECK.fault("work a 25 0 1;", 2, 7);
        CHECK.fault("work a 0 25 1;", 2, 9);
        CHECK.fault("work a 0 0 0;", 2, 11);
        CHECK.fault("work a 0 0 10;", 2, 11);
        x = right(FIVE, 5);
        CHECK.due("the fifth by name", x.named(1, 5 << 25), 4);
        for (int what = 0; what < 4; what++) {
            CHECK.due("the fifth, what " + what, x.work(4, what), new int[] {5, 6, 7, 0}[what]);
        }
        CHECK.fault(FIVE + "work f 1 1 1;", 2, 65);
        CHECK.fault(FIVE + "work e 1 1 1;", 2, 65);
        CHECK.fault(FIVE + "work", 2, 65);
        CHECK.fault("work a 1 1 1;work a 2 2 2;", 3, 18);
    }

    /** slip: 0 .. 100 (0). seed: 0 .. 99999 (0). Each is told once. */
    private static void odds() {
        CHECK.due("slip 0", right("slip 0;", 1).sure(1, 0), 1);
        CHECK.due("slip 100", right("slip 100;", 1).sure(1, 0), 0);
        CHECK.due("no slip", right("", 0).sure(1, 0), 1);
        CHECK.fault("slip 101;", 2, 5);
        CHECK.fault("slip 0;slip 0;", 3, 7);
        CHECK.fault("slip 0;slip 101;", 3, 7);
        right("seed 0;", 1);
        right("seed 99999;", 1);
        CHECK.fault("seed 100000;", 2, 5);
        CHECK.fault("seed 0;seed 0;", 3, 7);
        // Without a seed numbers begin with 0: 0 of a hundred is below 1.
        DayOpeners x = right("trade a 0 0;turn a;slip 1;", 3);
        DayOpeners y = right("trade a 0 0;turn a;slip 1;seed 0;", 4);
        x.go(1);
        y.go(1);
        CHECK.due("no seed", x.count(8), 1);
        CHECK.due("seed 0", y.count(8), 1);
    }

    /** FAULTS, the first along the text (of one place the least), with its place. */
    private static void firstAndLeast() {
        CHECK.fault("turn x;slip 101;!", 4, 5);
        CHECK.fault("slip 101;turn x;!", 2, 5);
        CHECK.fault("slip 1;slip 101;turn x;", 3, 7);
        CHECK.fault("! turn x;", 1, 0);
        CHECK.fault("trade a 24 10;", 2, 8);
        CHECK.fault("turn abcdefg;", 1, 5);
        CHECK.fault("turn hour;", 1, 5);
        CHECK.fault("claim x 100;", 4, 6);
        String most = "law will 1" + Check.times(31, "+1") + ";law fame 1;";
        CHECK.fault(most + "law length;", 1, most.length() + 10);
        CHECK.fault(most + "law length );", 1, most.length() + 11);
        CHECK.fault(most + "law length and;", 1, most.length() + 11);
        CHECK.fault(most + "law length x;", 1, most.length() + 11);
        CHECK.fault(most + "law length 10000;", 2, most.length() + 11);
        CHECK.fault(most + "law will;", 3, most.length() + 4);
        CHECK.fault("law will ((((((((1(2;", 1, 18);
        CHECK.fault("law will ((((((((1)(2;", 1, 19);
    }

    /** 1: a TOKEN that is none (a word of more than 6 letters that is none of the language, too) or can't stand there. */
    private static void noToken() {
        CHECK.fault("slip $;", 1, 5);
        CHECK.fault("slip abcdefg;", 1, 5);
        CHECK.fault("abcdefg 1;", 1, 0);
        CHECK.fault("law abcdefg 1;", 1, 4);
        CHECK.fault("law will abcdefg;", 1, 9);
        CHECK.fault("law will 1 abcdefg 1;", 1, 11);
        CHECK.fault("opened 1;", 1, 0);
        CHECK.fault("will 1;", 1, 0);
        CHECK.fault("and;", 1, 0);
        CHECK.fault("(slip 1);", 1, 0);
        CHECK.fault("slip (1);", 1, 5);
        CHECK.fault("slip 1+1;", 1, 6);
        CHECK.fault("law known 1;", 1, 4);
        CHECK.fault("law trade 1;", 1, 4);
        CHECK.fault("law not 1;", 1, 4);
    }

    /** The length, if more must come: of each kind of line, wherever it is cut between two tokens. */
    private static void cut() {
        String told = "trade a 5 3;";
        String[] all = {"trade b 5 3 ;", "turn a ;", "claim a 5 ;", "work w 1 1 1 ;", "slip 5 ;", "seed 5 ;",
            "law will ( 1 + hour ) and not 2 <= 3 ;"};
        for (String line : all) {
            for (int at = line.indexOf(' '); at >= 0; at = line.indexOf(' ', at + 1)) {
                String part = told + line.substring(0, at);
                CHECK.fault(part, 1, part.length());
                CHECK.fault(part + " \n ", 1, part.length() + 3);
            }
            right(told + line, 2);
        }
    }

    /** 2: a ninth '(' open. */
    private static void open() {
        String eight = "((((((((";
        String shut = "))))))))";
        CHECK.due("eight", right("trade a 0 0;law will " + eight + "7" + shut + ";", 2).law(2, 0), 7);
        CHECK.due("eight twice", right("trade a 0 0;law will " + eight + "7" + shut + "+" + eight + "7" + shut + ";", 2).law(2, 0), 14);
        right("law will " + eight + "7" + shut + ";law fame " + eight + "7" + shut + ";", 2);
        right("law will ((((((((1)+(2))))))));", 1);
        CHECK.fault("law will " + eight + "(7)" + shut + ";", 2, 17);
        CHECK.fault("law will ((((((((1)+((2))))))))));", 2, 21);
        CHECK.fault("law will not " + eight + "not (7)" + shut + ";", 2, 25);
    }

    /** 2: a 65th KNOT of all E (N, NAMES, signs, not, and, or: one each); '(' is none. */
    private static void knots() {
        String[] each = {"1", "hour", "1+1", "1-1", "1*1", "1/1", "1<1", "1<=1", "1=1", "1<>1", "1>=1", "1>1", "1 or 1",
            "1 and 1", "not 1", "not hour"};
        int[] counts = {1, 1, 3, 3, 3, 3, 3, 3, 3, 3, 3, 3, 3, 3, 2, 2};
        for (int i = 0; i < each.length; i++) {
            CHECK.due("knots of " + each[i], right("law will ((" + each[i] + "));", 1).count(4), counts[i]);
            // So many are told ahead that just this one's knots are left, or one less.
            String fits = most(64 - counts[i]);
            CHECK.due("knots with " + each[i], right(fits + "law fame " + each[i] + ";", 3).count(4), 64);
            String full = most(65 - counts[i]);
            String last = counts[i] == 1 ? "" : counts[i] == 2 ? "not " : each[i].substring(0, each[i].length() - 1);
            CHECK.fault(full + "law fame " + each[i] + ";", 2, full.length() + 9 + last.length());
        }
        String fits = most(62);
        String full = most(63);
        for (String sign : new String[] {"+", "-", "*", "/", "<", "<=", "=", "<>", ">=", ">", " or ", " and "}) {
            int blank = sign.startsWith(" ") ? 1 : 0;
            CHECK.fault(full + "law fame 1" + sign + "1;", 2, full.length() + 10 + blank);
            CHECK.fault(fits + "law fame 1" + sign + "1;", 2, fits.length() + 10 + sign.length());
        }
        CHECK.fault(full + "law fame not not 1;", 2, full.length() + 9 + 4);
        CHECK.due("the 64th", right("trade a 0 0;" + full + "law fame 7;", 4).law(1, 0), 7);
        CHECK.due("brackets are none", right(full + "law fame ((((((((1))))))));", 3).count(4), 64);
    }

    /** Two laws of so many knots in sum. */
    private static String most(int knots) {
        int second = knots % 2 == 0 ? 1 : 2;
        int signs = (knots - second - 1) / 2;
        return "law will 1" + Check.times(signs, "+1") + ";law length " + (second == 2 ? "not 1;" : "1;");
    }

    /** 3: told already: slip, seed (at the word), a law of its RULE (at RULE). */
    private static void again() {
        CHECK.fault("slip 1;seed 1;slip 1;", 3, 14);
        CHECK.fault("slip 1;seed 1;seed 1;", 3, 14);
        for (String rule : new String[] {"length", "fame", "will"}) {
            String once = "law " + rule + " 1;";
            CHECK.fault(once + "seed 1;" + once, 3, once.length() + 11);
            CHECK.fault(once + "law " + rule, 3, once.length() + 4);
            CHECK.fault(once + "law " + rule + " +", 3, once.length() + 4);
        }
        right("law length 1;law fame 1;law will 1;", 3);
    }

    /** 4: a TRADE that isn't told ahead (at W). */
    private static void untold() {
        CHECK.fault("turn a;trade a 0 0;", 4, 5);
        CHECK.fault("claim a 1;trade a 0 0;", 4, 6);
        CHECK.fault("trade a 0 0;turn b;", 4, 17);
        CHECK.fault("trade a 0 0;claim b 1;", 4, 18);
        CHECK.fault("trade ab 0 0;turn a;", 4, 18);
        CHECK.fault("trade a 0 0;turn ab;", 4, 17);
        CHECK.fault("work a 1 1 1;claim a 1;", 4, 19);
    }

    /** Promise 2: NONE, and none come, if it would have more than 700. */
    private static void fullTape() {
        DayOpeners x = new DayOpeners();
        Check.feed(x, "slip 7;" + Check.times(672, " "));
        CHECK.due("20 more: just 700", x.feed(0x20202020, 0x20202020, 0x20202020, 0x20202020, 0x73656564), 700);
        CHECK.due("20 more: too many", x.feed(0x20202020, 0x20202020, 0x20202020, 0x20202020, 0x20202020), -1);
        CHECK.due("none came", x.text(701), -2);
        CHECK.due("the last byte is there", x.text(700), -1);
        CHECK.due("a word is told at 696, more must come", x.fault(1), 700);
        CHECK.due("empty then", x.feed(1, 2, 3, 4, 5), 20);
    }

    /** Promise 2: four of each number, the highest first. */
    private static void bytes() {
        DayOpeners x = new DayOpeners();
        CHECK.due("'slip 12;slip 34;seed'", x.feed(0x736c6970, 0x2031323b, 0x736c6970, 0x2033343b, 0x73656564), 20);
        CHECK.due("told twice", x.text(20), -1);
        CHECK.due("at the ninth byte", x.fault(1), 8);
        for (int at = 0; at < 20; at++) {
            int[] n = new int[5];
            java.util.Arrays.fill(n, 0x20202020);
            n[at / 4] ^= 0xa0 << 24 - at % 4 * 8;
            x.feed(n[0], n[1], n[2], n[3], n[4]);
            CHECK.due("128 at " + at, x.text(20), -1);
            CHECK.due("128 at " + at, x.fault(1), at);
        }
    }

    /** Promise 3: -2, and the TAPE stays: there are not so many, n is below 0. */
    private static void noSuchText() {
        DayOpeners x = new DayOpeners();
        CHECK.due("1 of none", x.text(1), -2);
        CHECK.due("0 of none", x.text(0), 0);
        Check.feed(x, "slip 5;");
        CHECK.due("one too many", x.text(21), -2);
        CHECK.due("below 0", x.text(-1), -2);
        CHECK.due("the lowest", x.text(Integer.MIN_VALUE), -2);
        CHECK.due("the highest", x.text(Integer.MAX_VALUE), -2);
        CHECK.due("nothing was told", x.sure(1, 1), 1);
        CHECK.due("the tape stays", x.feed(0x20202020, 0x20202020, 0x20202020, 0x20202020, 0x20202020), 40);
        CHECK.due("all of it", x.text(40), 1);
        CHECK.due("empty then", x.text(1), -2);
        Check.feed(x, "slip 6;");
        CHECK.due("none of it", x.text(0), 0);
        CHECK.due("a text without lines", x.sure(1, 1), 1);
        CHECK.due("empty then, too", x.text(1), -2);
        Check.feed(x, "slip 101;");
        CHECK.due("a fault", x.text(9), -1);
        CHECK.due("empty behind a fault, too", x.text(1), -2);
        CHECK.due("the fault stays behind -2", x.fault(0), 2);
        CHECK.due("its place stays behind -2", x.fault(1), 5);
    }

    /** Promise 3: DAY 0, LIST as told, NEXT 0, nobody KNOWN, nothing OPENED, WENT ON and so on, whatever was ahead. */
    private static void beginsAnew() {
        String small = "trade a 4 0;trade b 9 0;turn a;turn b;work w 20 20 3;law length last+hour*5;law will date<3;";
        DayOpeners fresh = Check.of(small);
        DayOpeners x = Check.of("trade a 1 0;trade b 2 0;trade c 3 3;turn c;turn b;turn a;claim c 1;claim a 2;work v 0 24 1;"
            + "work w 0 24 9;slip 60;seed 77;law fame 9;law length 20;law will date<9;");
        x.go(12);
        x.appoint(1);
        x.put(0, 0);
        x.note(1, 24, true);
        x.note(1, 24, true);
        x.toldBy(1);
        x.keep();
        CHECK.due("the next text", Check.tell(x, small), 7);
        beganAnew("at first", x, fresh);
        x.go(5);
        x.put(0, 1);
        x.swap(1, 0);
        x.put(1, 1);
        x.appoint(1);
        CHECK.due("the same text", Check.tell(x, small), 7);
        beganAnew("again", x, fresh);
        x.note(1, 24, true);
        x.toldBy(0);
        x.text(0);
        DayOpeners none = new DayOpeners();
        for (int what = 0; what < 14; what++) {
            CHECK.due("a text without lines, count " + what, x.count(what), none.count(what));
        }
        x.note(1, 24, true);
        CHECK.due("all are told", x.count(12), 1);
    }

    private static void beganAnew(String when, DayOpeners x, DayOpeners fresh) {
        for (int what = 0; what < 14; what++) {
            CHECK.due("count " + what + " " + when, x.count(what), fresh.count(what));
        }
        for (int trade = 0; trade < 2; trade++) {
            CHECK.due("place of " + trade + " " + when, x.place(trade), trade);
            CHECK.due("known of " + trade + " " + when, x.trade(trade, 2), 0);
            CHECK.due("opened of " + trade + " " + when, x.trade(trade, 3), 0);
            CHECK.due("hours of " + trade + " " + when, x.hours(trade), (1 << 24) - 1);
            CHECK.due("length of " + trade + " " + when, x.length(trade), fresh.length(trade));
        }
        for (int n = 0; n < 5; n++) {
            CHECK.due("opener " + n + " " + when, x.opener(n), fresh.opener(n));
            CHECK.due("long " + n + " " + when, x.longAt(n), fresh.longAt(n));
        }
        CHECK.due("went on " + when, x.work(0, 3), 0);
        CHECK.due("no fame " + when, x.law(1, 0), Long.MIN_VALUE);
        CHECK.due("no slip " + when, x.sure(1, 0), 1);
        CHECK.due("no image " + when, x.back(), -1);
        CHECK.due("nothing to undo " + when, x.undo(), -1);
        CHECK.due("no note to strike " + when, x.strike(0), -1);
    }

    /** Promise 3: NONE with a FAULT, all else stays, wherever the FAULT is. */
    private static void staysBehindAFault() {
        String told = "trade a 4 2;turn a;claim a 9;work w 20 20 3;slip 100;seed 7;law length 20;law fame 3;law will 1;";
        String[] spoilt = {"!", "slip 1;seed 5;!", "law will 7;law length 3;law fame 5", "trade b 1 1;turn b;claim b 0;!",
            "work v 1 1 1;turn a;", "trade a 9 9;trade a", "law will ((((((((1+1*hour", "slip 50;slip"};
        for (String s : spoilt) {
            DayOpeners x = Check.of(told);
            x.go(2);
            x.appoint(0);
            x.note(1, 3, true);
            x.keep();
            CHECK.due("a fault of " + s, Check.tell(x, s), -1);
            int[] want = {1, 1, 1, 1, 3, 2, 0, 0, 2, 0, 6, 1, 1, 1};
            for (int what = 0; what < 14; what++) {
                CHECK.due("count " + what + " behind " + s, x.count(what), want[what]);
            }
            for (int what = 0; what < 5; what++) {
                CHECK.due("trade, what " + what + " behind " + s, x.trade(0, what), new int[] {4, 2, 6, 2, 1}[what]);
            }
            CHECK.due("named behind " + s, x.named(0, 1 << 25), 0);
            CHECK.due("work named behind " + s, x.named(1, 23 << 25), 0);
            for (int what = 0; what < 3; what++) {
                CHECK.due("law " + what + " behind " + s, x.law(what, 0), new int[] {20, 3, 1}[what]);
            }
            CHECK.due("sure behind " + s, x.sure(1, 0), 0);
            CHECK.due("went on behind " + s, x.work(0, 3), 2);
            CHECK.due("what can be undone behind " + s, x.undo(), 0);
            CHECK.due("the image behind " + s, x.back(), 2);
        }
    }

    /** Promise 4: its FAULT (0), 1: its place (NONE without); NONE for another what. */
    private static void faults() {
        DayOpeners x = new DayOpeners();
        for (int round = 0; round < 2; round++) {
            CHECK.due("0 without a fault", x.fault(0), 0);
            CHECK.due("NONE without a fault", x.fault(1), -1);
            CHECK.due("what -1", x.fault(-1), -1);
            CHECK.due("what 2", x.fault(2), -1);
            Check.tell(x, "!");
            CHECK.due("a fault", x.fault(0), 1);
            CHECK.due("its place may be 0", x.fault(1), 0);
            CHECK.due("what -1 with a fault", x.fault(-1), -1);
            CHECK.due("what 2 with a fault", x.fault(2), -1);
            Check.tell(x, "slip 1;");
        }
    }

    /** Promise 5: 5 bits each (a is 1; the first one highest of six, 0 behind the last one); NONE: there is none such. */
    private static void named() {
        DayOpeners x = right("trade a 0 0;trade az 0 0;trade aaaaaa 0 0;trade zzzzzz 0 0;work z 0 0 1;work zzzzzy 0 0 1;", 6);
        CHECK.due("a", x.named(0, 1 << 25), 0);
        CHECK.due("az", x.named(0, 1 << 25 | 26 << 20), 1);
        CHECK.due("aaaaaa", x.named(0, 1 << 25 | 1 << 20 | 1 << 15 | 1 << 10 | 1 << 5 | 1), 2);
        CHECK.due("zzzzzz", x.named(0, 26 << 25 | 26 << 20 | 26 << 15 | 26 << 10 | 26 << 5 | 26), 3);
        CHECK.due("work z", x.named(1, 26 << 25), 0);
        CHECK.due("work zzzzzy", x.named(1, 26 << 25 | 26 << 20 | 26 << 15 | 26 << 10 | 26 << 5 | 25), 1);
        CHECK.due("aaaaa", x.named(0, 1 << 25 | 1 << 20 | 1 << 15 | 1 << 10 | 1 << 5), -1);
        CHECK.due("a, not highest", x.named(0, 1), -1);
        CHECK.due("a hole", x.named(0, 1 << 25 | 1), -1);
        CHECK.due("none", x.named(0, 0), -1);
        CHECK.due("below 0", x.named(0, 1 << 25 | 1 << 31), -1);
        CHECK.due("above 30 bits", x.named(0, 1 << 25 | 1 << 30), -1);
        CHECK.due("a work isn't a trade", x.named(0, 26 << 25), -1);
        CHECK.due("a trade isn't a work", x.named(1, 1 << 25), -1);
        CHECK.due("what 2", x.named(2, 1 << 25), -1);
        CHECK.due("what -1", x.named(-1, 1 << 25), -1);
        DayOpeners y = new DayOpeners();
        CHECK.due("no trades", y.named(0, 0), -1);
        CHECK.due("no works", y.named(1, 0), -1);
    }

    public static void main(String[] args) {
        lines();
        letters();
        notOfTheLanguage();
        wordsEndWhereLettersEnd();
        blanks();
        digits();
        numbersOfFormulas();
        signsOfTwo();
        formulas();
        trades();
        places();
        claims();
        works();
        odds();
        firstAndLeast();
        noToken();
        cut();
        open();
        knots();
        again();
        untold();
        fullTape();
        bytes();
        noSuchText();
        beginsAnew();
        staysBehindAFault();
        faults();
        named();
        CHECK.ends();
    }
}
