import java.util.Random;

/** Texts and calls by chance (the same ones every time): the program and the model must answer alike. */
public final class ModelTest {
    private static final String[] TRADES = {"a", "bee", "smith", "tailor", "n", "zz", "q"};
    private static final String[] WORKS = {"u", "bee", "wall", "roofed", "e", "f"};
    private static final String[] LEAVES = {"hour", "manner", "known", "opened", "left", "last", "date", "0", "1", "2",
        "3", "7", "24", "100", "9999"};
    private static final String[] SIGNS = {"+", "-", "*", "/", "<", "<=", "=", "<>", ">=", ">", " and ", " or "};
    private static final String[] STRAY = {";", "(", ")", "+", "<", "=", ">", "not", "and", "law", "trade", "5", "99999",
        "x", "turning", "!", "A", "length", "date", " ", "\n", "0", "100000", "1000000000000000000000"};

    private static Random by;

    private static int pick(int n) {
        return by.nextInt(n);
    }

    private static String one(String[] of) {
        return of[pick(of.length)];
    }

    private static String formula(int depth) {
        if (depth == 0 || pick(4) == 0) {
            return one(LEAVES);
        }
        switch (pick(6)) {
            case 0:
                return "(" + formula(depth - 1) + ")";
            case 1:
                return "(not " + formula(depth - 1) + ")";
            default:
                String left = formula(depth - 1);
                String right = formula(depth - 1);
                return pick(2) == 0 ? "(" + left + one(SIGNS) + right + ")" : left + one(SIGNS) + right;
        }
    }

    private static String text() {
        StringBuilder s = new StringBuilder();
        int trades = pick(8) == 0 ? pick(2) : 1 + pick(6);
        for (int i = 0; i < trades; i++) {
            s.append("trade ").append(TRADES[i]).append(' ').append(pick(24)).append(' ').append(pick(10)).append(';');
        }
        for (int i = pick(13); i > 0 && trades > 0; i--) {
            s.append("turn ").append(TRADES[pick(trades)]).append(pick(9) == 0 ? " \n;" : ";");
        }
        int date = 0;
        for (int i = pick(4) * pick(3); i > 0 && trades > 0; i--) {
            date += 1 + pick(7);
            s.append("claim ").append(TRADES[pick(trades)]).append(' ').append(date).append(';');
        }
        int works = pick(6);
        for (int i = 0; i < works; i++) {
            int low = pick(25);
            int high = pick(6) == 0 ? pick(25) : low + pick(25 - low);
            s.append("work ").append(WORKS[i]).append(' ').append(low).append(' ').append(high).append(' ')
                .append(1 + pick(pick(2) == 0 ? 9 : 3)).append(';');
        }
        if (pick(2) == 0) {
            s.append("slip ").append(pick(3) == 0 ? 100 * pick(2) : pick(101)).append(';');
        }
        if (pick(2) == 0) {
            s.append("seed ").append(pick(100000)).append(';');
        }
        for (String rule : new String[] {"length", "fame", "will"}) {
            if (pick(3) > 0) {
                s.append("law ").append(rule).append(' ').append(formula(1 + pick(5))).append(';');
            }
        }
        return s.toString();
    }

    /** A text in which something stands that should not, or is gone. */
    private static String spoilt(String s) {
        for (int i = pick(3); i >= 0; i--) {
            int at = pick(s.length() + 1);
            int to = Math.min(s.length(), at + pick(4));
            switch (pick(4)) {
                case 0:
                    s = s.substring(0, at) + s.substring(to);
                    break;
                case 1:
                    s = s.substring(0, at) + one(STRAY) + s.substring(at);
                    break;
                case 2:
                    s = s.substring(0, at);
                    break;
                default:
                    int end = s.indexOf(';', at) + 1;
                    s = s + s.substring(Math.min(at, end), end);
                    break;
            }
        }
        return s;
    }

    /** Words, numbers and signs in any order, most of them where they may stand. */
    private static String jumble() {
        StringBuilder s = new StringBuilder();
        for (int i = pick(40); i > 0; i--) {
            switch (pick(9)) {
                case 0:
                    s.append(one(TRADES));
                    break;
                case 1:
                    s.append(one(STRAY));
                    break;
                case 2:
                    s.append("law ").append(one(new String[] {"length", "fame", "will", "hour"})).append(' ');
                    break;
                case 3:
                    s.append("trade ").append(one(TRADES)).append(" 5 ").append(pick(11));
                    break;
                case 4:
                    s.append(one(SIGNS));
                    break;
                case 5:
                    s.append(formula(2));
                    break;
                case 6:
                    s.append("claim ").append(one(TRADES)).append(' ').append(pick(5)).append(';');
                    break;
                default:
                    s.append(pick(50) == 0 ? (char) pick(256) : ';');
                    break;
            }
            s.append(pick(4) == 0 ? " " : "");
        }
        return s.toString();
    }

    private static int near(int n) {
        switch (pick(12)) {
            case 0:
                return -1;
            case 1:
                return n;
            case 2:
                return pick(3) == 0 ? Integer.MAX_VALUE - pick(2) : pick(3) == 0 ? Integer.MIN_VALUE : n + 1;
            default:
                return pick(Math.max(n, 1));
        }
    }

    private static int days() {
        return pick(3) == 0 ? near(201) : pick(12);
    }

    private static long thrown(RuntimeException e) {
        return e instanceof IndexOutOfBoundsException ? -1001 : e instanceof java.util.NoSuchElementException ? -1002 : -1003;
    }

    private static long tradeOf(DayOpeners x, int trade, int what) {
        try {
            return x.trade(trade, what);
        } catch (RuntimeException e) {
            return thrown(e);
        }
    }

    private static long tradeOf(Model m, int trade, int what) {
        try {
            return m.trade(trade, what);
        } catch (RuntimeException e) {
            return thrown(e);
        }
    }

    private static void tell(Check check, String name, DayOpeners x, Model m, String s) {
        for (int i = 0; i < s.length(); i += 20) {
            int[] n = new int[5];
            for (int j = 0; j < 5; j++) {
                n[j] = Check.numberAt(s, i + 4 * j);
            }
            check.due(name + " feed", x.feed(n[0], n[1], n[2], n[3], n[4]), m.feed(n[0], n[1], n[2], n[3], n[4]));
        }
        int size = pick(30) == 0 ? near(s.length()) : s.length();
        check.due(name + " text " + s, x.text(size), m.text(size));
        check.due(name + " fault(0) of " + s, x.fault(0), m.fault(0));
        check.due(name + " fault(1) of " + s, x.fault(1), m.fault(1));
        check.due(name + " knots of " + s, x.count(4), m.count(4));
    }

    private static void call(Check check, String name, DayOpeners x, Model m, boolean dear) {
        int t = near(m.told.trades.size());
        int u = near(m.told.trades.size());
        int p = near(m.now.list.size());
        int q = near(m.now.list.size());
        int w = near(m.told.works.size());
        int n = days();
        int kind = pick(40);
        String call = name + " call " + kind + " with " + t + " " + u + " " + p + " " + q + " " + w + " " + n;
        switch (kind) {
            case 0: check.due(call, x.appoint(t), m.appoint(t)); break;
            case 1: check.due(call, x.put(p, t), m.put(p, t)); break;
            case 2: check.due(call, x.swap(p, q), m.swap(p, q)); break;
            case 3: n = pick(8) == 0 ? n : pick(4); check.due(call + " " + n, x.go(n), m.go(n)); break;
            case 4: { int k = near(5); check.due(call + " " + k, x.ahead(n, k, t), m.ahead(n, k, t)); break; }
            case 5: check.due(call, x.opener(n), m.opener(n)); break;
            case 6: check.due(call, x.longAt(n), m.longAt(n)); break;
            case 7: check.due(call, x.doneWhen(w), m.doneWhen(w)); break;
            case 8: check.due(call, x.soon(t), m.soon(t)); break;
            case 9: check.due(call, x.out(t), m.out(t)); break;
            case 10: check.due(call, x.missing(n), m.missing(n)); break;
            case 11: if (dear) { int k = near(7); check.due(call + " " + k, x.plan(k), m.plan(k)); } break;
            case 12: { int k = near(7); int d = dear ? near(7) : near(4); check.due(call + " " + d + " " + k, x.best(d, k), m.best(d, k)); break; }
            case 13: check.due(call, x.fair(p), m.fair(p)); break;
            case 14: check.due(call, x.pairs(), m.pairs()); break;
            case 15: check.due(call, x.power(t), m.power(t)); break;
            case 16: { int k = near(1 << m.told.trades.size()); check.due(call + " " + k, x.even(k), m.even(k)); break; }
            case 17: check.due(call, x.rare(), m.rare()); break;
            case 18: check.due(call, x.rests(t, u), m.rests(t, u)); break;
            case 19: { int k = near(4); check.due(call + " " + k, x.rest(t, u, k), m.rest(t, u, k)); break; }
            case 20: { int k = near(7); int l = near(2); check.due(call + " " + k + l, x.sure(k, l), m.sure(k, l)); break; }
            case 21: { int d = near(61); int l = near(25); boolean b = pick(2) == 0; check.due(call + d + l, x.note(d, l, b), m.note(d, l, b)); break; }
            case 22: { int k = near(m.notes.size()); check.due(call + " " + k, x.strike(k), m.strike(k)); break; }
            case 23: { int k = near(m.notes.size() + 1); check.due(call + " " + k, x.toldBy(k), m.toldBy(k)); break; }
            case 24: check.due(call, x.hours(t), m.hours(t)); break;
            case 25: { int k = near(2); check.due(call + " " + k, x.ask(t, k), m.ask(t, k)); break; }
            case 26: { int s = pick(2) == 0 ? near(100) : pick(Integer.MAX_VALUE); int d = near(100); check.due(call + s + " " + d, x.chance(s, d, w), m.chance(s, d, w)); break; }
            case 27: { int k = near(5); int i = k == 2 ? t : pick(9) == 0 ? t : 0; check.due(call + " " + k + i, x.tried(k, i, n), m.tried(k, i, n)); break; }
            case 28: check.due(call, x.undo(), m.undo()); break;
            case 29: if (pick(3) == 0) { check.due(call, x.keep(), m.keep()); } break;
            case 30: if (pick(3) == 0) { check.due(call, x.back(), m.back()); } break;
            case 31: { int k = near(5); check.due(call + " " + k, tradeOf(x, t, k), tradeOf(m, t, k)); break; }
            case 32: check.due(call, x.place(p), m.place(p)); break;
            case 33: { int k = near(4); check.due(call + " " + k, x.work(w, k), m.work(w, k)); break; }
            case 34: { int k = near(3); check.due(call + " " + k, x.law(k, t), m.law(k, t)); break; }
            case 35: check.due(call, x.length(t), m.length(t)); break;
            case 36: { int k = near(2); String[] of = k == 1 ? WORKS : TRADES; int l = pick(5) == 0 ? near(32) : Check.letters(one(of)); check.due(call + k + l, x.named(k, l), m.named(k, l)); break; }
            case 37: { int k = near(2); check.due(call + " " + k, x.fault(k), m.fault(k)); break; }
            default: { int k = near(14); check.due(call + " " + k, x.count(k), m.count(k)); break; }
        }
        for (int k = 5; k < 14; k++) {
            check.due(call + " then count " + k, x.count(k), m.count(k));
        }
    }

    public static void main(String[] args) {
        int runs = args.length > 1 ? Integer.parseInt(args[1]) : 1500;
        Check check = new Check();
        for (int run = 0; run < runs; run++) {
            by = new Random(run);
            DayOpeners x = new DayOpeners();
            Model m = new Model();
            String name = "run " + run;
            boolean dear = run % 25 == 0;
            for (int part = 0; part < 2; part++) {
                String s = text();
                tell(check, name, x, m, pick(4) == 0 ? spoilt(s) : s);
                for (int i = 0; i < 6; i++) {
                    tell(check, name, x, m, spoilt(text()));
                    tell(check, name, x, m, jumble());
                    tell(check, name, x, m, "trade a 1 1;trade n 2 2;law will " + jumble());
                }
                tell(check, name, x, m, s);
                for (int i = run % 10 == 0 ? 97 - pick(3) : 0; i > 0; i--) {
                    check.due(name + " far on", x.go(101), m.go(101));
                }
                for (int i = 0; i < (dear ? 100 : 70); i++) {
                    call(check, name + " of " + s, x, m, dear);
                }
            }
        }
        check.ends();
    }
}
