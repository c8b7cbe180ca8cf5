import java.util.NoSuchElementException;

/** What the tests share: telling a text to an object, and counting answers that are not due. */
final class Check {
    private int right = 0;
    private int wrong = 0;

    void due(String call, long got, long want) {
        if (got == want) {
            right++;
        } else {
            wrong++;
            System.out.println(call + " answered " + got + ", due is " + want);
        }
    }

    void due(String call, boolean got, boolean want) {
        due(call, got ? 1 : 0, want ? 1 : 0);
    }

    /** The answers of one call for 0, 1, 2 and so on, told as one line. */
    void row(String call, long[] got, long... want) {
        due(call + ": how many answers", got.length, want.length);
        for (int i = 0; i < Math.min(got.length, want.length); i++) {
            due(call + " at " + i, got[i], want[i]);
        }
    }

    /** trade(trade, what): 1 if it throws IndexOutOfBoundsException, 2 NoSuchElementException, 0 if it answers. */
    static int thrownBy(DayOpeners x, int trade, int what) {
        try {
            x.trade(trade, what);
            return 0;
        } catch (IndexOutOfBoundsException e) {
            return 1;
        } catch (NoSuchElementException e) {
            return 2;
        }
    }

    static int byteAt(String text, int i) {
        return i < text.length() ? text.charAt(i) & 255 : 32;
    }

    static int numberAt(String text, int i) {
        return byteAt(text, i) << 24 | byteAt(text, i + 1) << 16 | byteAt(text, i + 2) << 8 | byteAt(text, i + 3);
    }

    /** Feeds a text, padded by blanks to whole feeds, behind what the tape has. */
    static void feed(DayOpeners x, String text) {
        for (int i = 0; i < text.length(); i += 20) {
            x.feed(numberAt(text, i), numberAt(text, i + 4), numberAt(text, i + 8), numberAt(text, i + 12),
                numberAt(text, i + 16));
        }
    }

    static int tell(DayOpeners x, String text) {
        feed(x, text);
        return x.text(text.length());
    }

    static DayOpeners of(String text) {
        DayOpeners x = new DayOpeners();
        int lines = tell(x, text);
        if (lines < 0) {
            throw new IllegalStateException("the test's text has a fault: " + text + " at " + x.fault(1));
        }
        return x;
    }

    /** A text that has a fault, of this kind at this place. */
    void fault(String text, int kind, int place) {
        DayOpeners x = new DayOpeners();
        due("text " + text, tell(x, text), -1);
        due("fault(0) of " + text, x.fault(0), kind);
        due("fault(1) of " + text, x.fault(1), place);
    }

    static int letters(String word) {
        int letters = 0;
        for (int i = 0; i < 6; i++) {
            letters = letters << 5 | (i < word.length() ? word.charAt(i) - 'a' + 1 : 0);
        }
        return letters;
    }

    static String times(int n, String text) {
        StringBuilder all = new StringBuilder();
        for (int i = 0; i < n; i++) {
            all.append(text);
        }
        return all.toString();
    }

    void ends() {
        System.out.println(right + " answers are as due, " + wrong + " are not");
        if (wrong != 0 || right == 0) {
            System.exit(1);
        }
    }
}
