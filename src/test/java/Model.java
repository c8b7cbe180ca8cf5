import java.math.BigInteger;
import java.util.ArrayDeque;
import java.util.ArrayList;
import java.util.Arrays;
import java.util.Deque;
import java.util.HashMap;
import java.util.HashSet;
import java.util.List;
import java.util.Map;
import java.util.NoSuchElementException;
import java.util.Set;
import java.util.TreeMap;

/**
 * The document once more, written with the whole Java library, by trees and by trying all there is, and without a look
 * at how the program does it: what both answer is compared by ModelTest.
 */
final class Model {
    static final Set<String> LANGUAGE = new HashSet<>(Arrays.asList("trade", "turn", "claim", "work", "slip", "seed",
        "law", "length", "fame", "will", "or", "and", "not", "hour", "manner", "known", "opened", "left", "last",
        "date"));
    static final Set<String> NAMES = new HashSet<>(Arrays.asList("hour", "manner", "known", "opened", "left", "last",
        "date"));

    // ---- the text

    static final class Fault extends RuntimeException {
        private static final long serialVersionUID = 1L;
        final int kind;
        final int place;

        Fault(int kind, int place) {
            this.kind = kind;
            this.place = place;
        }
    }

    static final class Err extends Exception {
        private static final long serialVersionUID = 1L;
    }

    interface Node {
        long worth(Map<String, Long> names) throws Err;
    }

    static final class Work {
        String name;
        int low;
        int high;
        int need;
    }

    static final class Told {
        int lines;
        List<String> trades = new ArrayList<>();
        List<Integer> hours = new ArrayList<>();
        List<Integer> manners = new ArrayList<>();
        List<Integer> turns = new ArrayList<>();
        Map<Integer, Integer> claims = new HashMap<>();
        List<Work> works = new ArrayList<>();
        Integer slip;
        Integer seed;
        Map<String, Node> laws = new HashMap<>();
        int knots;

        int slip() {
            return slip == null ? 0 : slip;
        }
    }

    static final class Token {
        String text;
        int place;
        boolean ends;
        boolean bad;

        boolean isNumber() {
            return !ends && !bad && Character.isDigit(text.charAt(0));
        }

        boolean isWord() {
            return !ends && !bad && text.charAt(0) >= 'a' && text.charAt(0) <= 'z';
        }

        boolean is(String what) {
            return !ends && !bad && text.equals(what);
        }
    }

    static List<Token> tokens(String s) {
        List<Token> all = new ArrayList<>();
        int i = 0;
        while (true) {
            while (i < s.length() && (s.charAt(i) == ' ' || s.charAt(i) == '\n')) {
                i++;
            }
            Token t = new Token();
            t.place = i;
            all.add(t);
            if (i == s.length()) {
                t.ends = true;
                t.text = "";
                return all;
            }
            char c = s.charAt(i);
            int j = i + 1;
            if (c >= 'a' && c <= 'z') {
                while (j < s.length() && s.charAt(j) >= 'a' && s.charAt(j) <= 'z') {
                    j++;
                }
                t.bad = j - i > 6;
            } else if (c >= '0' && c <= '9') {
                while (j < s.length() && s.charAt(j) >= '0' && s.charAt(j) <= '9') {
                    j++;
                }
            } else if (";()+-*/<=>".indexOf(c) < 0) {
                t.bad = true;
            } else if (j < s.length()) {
                String two = s.substring(i, j + 1);
                if (two.equals("<=") || two.equals(">=") || two.equals("<>")) {
                    j++;
                }
            }
            t.text = s.substring(i, j);
            i = j;
        }
    }

    static final class Reading {
        final List<Token> tokens;
        int at = 0;
        final Told told = new Told();
        int open;

        Reading(String s) {
            tokens = tokens(s);
        }

        Token here() {
            return tokens.get(at);
        }

        Fault fault(int kind) {
            return new Fault(kind, here().place);
        }

        void need(boolean stands, int kind) {
            if (!stands) {
                throw fault(kind);
            }
        }

        int number(int low, int high) {
            need(here().isNumber(), 1);
            BigInteger n = new BigInteger(here().text);
            need(n.compareTo(BigInteger.valueOf(low)) >= 0 && n.compareTo(BigInteger.valueOf(high)) <= 0, 2);
            return n.intValue();
        }

        void word() {
            need(here().isWord() && !LANGUAGE.contains(here().text), 1);
        }

        Told read() {
            while (!here().ends) {
                line();
                need(here().is(";"), 1);
                at++;
                told.lines++;
            }
            return told;
        }

        void line() {
            String kind = here().isWord() ? here().text : "";
            if (kind.equals("trade")) {
                need(told.trades.size() < 6, 2);
                at++;
                word();
                need(!told.trades.contains(here().text), 3);
                String name = here().text;
                at++;
                int hour = number(0, 23);
                at++;
                int manner = number(0, 9);
                at++;
                told.trades.add(name);
                told.hours.add(hour);
                told.manners.add(manner);
            } else if (kind.equals("turn")) {
                need(told.turns.size() < 12, 2);
                at++;
                word();
                need(told.trades.contains(here().text), 4);
                told.turns.add(told.trades.indexOf(here().text));
                at++;
            } else if (kind.equals("claim")) {
                need(told.claims.size() < 10, 2);
                at++;
                word();
                need(told.trades.contains(here().text), 4);
                int trade = told.trades.indexOf(here().text);
                at++;
                int date = number(0, 99);
                need(!told.claims.containsKey(date), 3);
                told.claims.put(date, trade);
                at++;
            } else if (kind.equals("work")) {
                need(told.works.size() < 5, 2);
                at++;
                word();
                for (Work w : told.works) {
                    need(!w.name.equals(here().text), 3);
                }
                Work w = new Work();
                w.name = here().text;
                at++;
                w.low = number(0, 24);
                at++;
                w.high = number(0, 24);
                at++;
                w.need = number(1, 9);
                at++;
                told.works.add(w);
            } else if (kind.equals("slip")) {
                need(told.slip == null, 3);
                at++;
                told.slip = number(0, 100);
                at++;
            } else if (kind.equals("seed")) {
                need(told.seed == null, 3);
                at++;
                told.seed = number(0, 99999);
                at++;
            } else if (kind.equals("law")) {
                at++;
                String rule = here().isWord() ? here().text : "";
                need(rule.equals("length") || rule.equals("fame") || rule.equals("will"), 1);
                need(!told.laws.containsKey(rule), 3);
                at++;
                open = 0;
                told.laws.put(rule, e());
            } else {
                throw fault(1);
            }
        }

        void knot() {
            need(told.knots < 64, 2);
            told.knots++;
        }

        Node e() {
            Node n = a();
            while (here().is("or")) {
                knot();
                at++;
                n = join("or", n, a());
            }
            return n;
        }

        Node a() {
            Node n = b();
            while (here().is("and")) {
                knot();
                at++;
                n = join("and", n, b());
            }
            return n;
        }

        Node b() {
            if (here().is("not")) {
                knot();
                at++;
                Node n = b();
                return names -> n.worth(names) == 0 ? 1 : 0;
            }
            return c();
        }

        Node c() {
            Node n = s();
            for (String sign : new String[] {"<", "<=", "=", "<>", ">=", ">"}) {
                if (here().is(sign)) {
                    knot();
                    at++;
                    return join(sign, n, s());
                }
            }
            return n;
        }

        Node s() {
            Node n = t();
            while (here().is("+") || here().is("-")) {
                String sign = here().text;
                knot();
                at++;
                n = join(sign, n, t());
            }
            return n;
        }

        Node t() {
            Node n = p();
            while (here().is("*") || here().is("/")) {
                String sign = here().text;
                knot();
                at++;
                n = join(sign, n, p());
            }
            return n;
        }

        Node p() {
            if (here().is("(")) {
                need(open < 8, 2);
                open++;
                at++;
                Node n = e();
                need(here().is(")"), 1);
                at++;
                open--;
                return n;
            }
            if (here().isNumber()) {
                long n = number(0, 9999);
                knot();
                at++;
                return names -> n;
            }
            need(here().isWord() && NAMES.contains(here().text), 1);
            String name = here().text;
            knot();
            at++;
            return names -> names.get(name);
        }
    }

    static Node join(String sign, Node left, Node right) {
        return names -> {
            BigInteger l = BigInteger.valueOf(left.worth(names));
            BigInteger r = BigInteger.valueOf(right.worth(names));
            int by = l.compareTo(r);
            boolean holds;
            switch (sign) {
                case "or":
                    holds = l.signum() != 0 || r.signum() != 0;
                    break;
                case "and":
                    holds = l.signum() != 0 && r.signum() != 0;
                    break;
                case "<":
                    holds = by < 0;
                    break;
                case "<=":
                    holds = by <= 0;
                    break;
                case "=":
                    holds = by == 0;
                    break;
                case "<>":
                    holds = by != 0;
                    break;
                case ">=":
                    holds = by >= 0;
                    break;
                case ">":
                    holds = by > 0;
                    break;
                case "+":
                    return bounded(l.add(r));
                case "-":
                    return bounded(l.subtract(r));
                case "*":
                    return bounded(l.multiply(r));
                default:
                    if (r.signum() == 0) {
                        throw new Err();
                    }
                    return bounded(l.divide(r));
            }
            return holds ? 1 : 0;
        };
    }

    static long bounded(BigInteger value) throws Err {
        if (value.abs().compareTo(BigInteger.TEN.pow(12)) > 0) {
            throw new Err();
        }
        return value.longValue();
    }

    // ---- days

    static final class World {
        int day;
        int next;
        long number;
        Integer appointed;
        int last;
        int mistakes;
        int dark;
        List<Integer> list = new ArrayList<>();
        int[] known = new int[6];
        int[] opened = new int[6];
        int[] went = new int[5];

        World() {
        }

        World(Told told) {
            number = told.seed == null ? 0 : told.seed;
            list.addAll(told.turns);
        }

        World again() {
            World w = new World();
            w.day = day;
            w.next = next;
            w.number = number;
            w.appointed = appointed;
            w.last = last;
            w.mistakes = mistakes;
            w.dark = dark;
            w.list.addAll(list);
            w.known = known.clone();
            w.opened = opened.clone();
            w.went = went.clone();
            return w;
        }
    }

    /** How days go: what is drawn, and in what they differ from the text. */
    static final class Way {
        boolean draws;
        Integer mistakes;
        int refuses = -1;
        boolean noClaims;
        Map<Integer, Integer> hours = new HashMap<>();
    }

    static final class Day {
        int who = -1;
        int length;
    }

    Told told = new Told();
    World now = new World();
    World image;
    StringBuilder tape = new StringBuilder();
    int fault = 0;
    int faultPlace = -1;
    Deque<Object[]> undos = new ArrayDeque<>();

    static final class Note {
        int days;
        int length;
        boolean atLeast;
        int strikes = -1;
    }

    List<Note> notes = new ArrayList<>();
    int tellBy = -1;

    int hour(Way way, int t) {
        return way.hours.getOrDefault(t, told.hours.get(t));
    }

    int leftOf(World w) {
        int left = 0;
        for (int i = 0; i < told.works.size(); i++) {
            left += w.went[i] < told.works.get(i).need ? 1 : 0;
        }
        return left;
    }

    Long worth(String rule, World w, Way way, int t) {
        Node n = told.laws.get(rule);
        if (n == null) {
            return null;
        }
        Map<String, Long> names = new HashMap<>();
        names.put("hour", (long) hour(way, t));
        names.put("manner", (long) told.manners.get(t));
        names.put("known", (long) w.known[t]);
        names.put("opened", (long) w.opened[t]);
        names.put("left", (long) leftOf(w));
        names.put("last", (long) w.last);
        names.put("date", (long) w.day);
        try {
            return n.worth(names);
        } catch (Err e) {
            return null;
        }
    }

    int lengthOf(World w, Way way, int t) {
        Long e = worth("length", w, way, t);
        return e == null ? 24 - hour(way, t) : (int) Math.max(0L, Math.min(24L, e));
    }

    Day day(World w, Way way) {
        Day d = new Day();
        if (w.appointed != null) {
            d.who = w.appointed;
        } else if (!way.noClaims && told.claims.containsKey(w.day)) {
            d.who = told.claims.get(w.day);
        } else if (!w.list.isEmpty()) {
            int slip = way.mistakes == null ? told.slip() : way.mistakes;
            boolean mistake = slip >= 50;
            if (way.draws && slip > 0 && slip < 100) {
                w.number = (w.number * 1103515245L + 12345L) % 2147483648L;
                mistake = w.number / 65536 % 100 < slip;
            } else if (slip == 0) {
                mistake = false;
            }
            if (mistake) {
                w.mistakes++;
                w.next = (w.next + 1) % w.list.size();
            }
            for (int i = 0; i < w.list.size() && d.who < 0; i++) {
                int place = (w.next + i) % w.list.size();
                int t = w.list.get(place);
                Long will = worth("will", w, way, t);
                if (t != way.refuses && (will == null || will != 0)) {
                    d.who = t;
                    w.next = (place + 1) % w.list.size();
                }
            }
        }
        if (d.who < 0) {
            w.dark++;
        } else {
            d.length = lengthOf(w, way, d.who);
            Long fame = worth("fame", w, way, d.who);
            long more = fame == null ? 1 : Math.max(-9L, Math.min(9L, fame));
            w.known[d.who] = (int) Math.max(0, Math.min(999, w.known[d.who] + more));
            w.opened[d.who] = Math.min(9999, w.opened[d.who] + 1);
            for (int i = 0; i < told.works.size(); i++) {
                Work k = told.works.get(i);
                if (w.went[i] < k.need && k.low <= d.length && d.length <= k.high) {
                    w.went[i]++;
                }
            }
            w.last = d.length;
        }
        w.day++;
        w.appointed = null;
        return d;
    }

    List<Day> days(World w, Way way, int n) {
        List<Day> all = new ArrayList<>();
        for (int i = 0; i < n; i++) {
            all.add(day(w, way));
        }
        return all;
    }

    // ---- the face

    boolean isTrade(int t) {
        return t >= 0 && t < told.trades.size();
    }

    boolean isWork(int w) {
        return w >= 0 && w < told.works.size();
    }

    boolean isPlace(int p) {
        return p >= 0 && p < now.list.size();
    }

    static boolean within(int n, int low, int high) {
        return n >= low && n <= high;
    }

    int feed(int a, int b, int c, int d, int e) {
        if (tape.length() + 20 > 700) {
            return -1;
        }
        for (int n : new int[] {a, b, c, d, e}) {
            for (int i = 3; i >= 0; i--) {
                tape.append((char) (n >>> 8 * i & 255));
            }
        }
        return tape.length();
    }

    int text(int n) {
        if (n < 0 || n > tape.length()) {
            return -2;
        }
        String s = tape.substring(0, n);
        tape = new StringBuilder();
        fault = 0;
        faultPlace = -1;
        try {
            told = new Reading(s).read();
        } catch (Fault f) {
            fault = f.kind;
            faultPlace = f.place;
            return -1;
        }
        now = new World(told);
        image = null;
        undos.clear();
        notes.clear();
        tellBy = -1;
        return told.lines;
    }

    int fault(int what) {
        return what == 0 ? fault : what == 1 ? faultPlace : -1;
    }

    int named(int what, int letters) {
        List<String> all = new ArrayList<>();
        if (what == 0) {
            all.addAll(told.trades);
        } else if (what == 1) {
            for (Work w : told.works) {
                all.add(w.name);
            }
        }
        for (int i = 0; i < all.size(); i++) {
            int code = 0;
            for (int j = 0; j < 6; j++) {
                code = code * 32 + (j < all.get(i).length() ? all.get(i).charAt(j) - 96 : 0);
            }
            if (code == letters) {
                return i;
            }
        }
        return -1;
    }

    int placesOf(int t) {
        int n = 0;
        for (int had : now.list) {
            n += had == t ? 1 : 0;
        }
        return n;
    }

    int trade(int t, int what) {
        if (!isTrade(t)) {
            throw new IndexOutOfBoundsException();
        }
        if (!within(what, 0, 4)) {
            throw new NoSuchElementException();
        }
        return new int[] {told.hours.get(t), told.manners.get(t), now.known[t], now.opened[t], placesOf(t)}[what];
    }

    int place(int p) {
        return isPlace(p) ? now.list.get(p) : -1;
    }

    int work(int w, int what) {
        if (!isWork(w) || !within(what, 0, 3)) {
            return -1;
        }
        Work k = told.works.get(w);
        return new int[] {k.low, k.high, k.need, now.went[w]}[what];
    }

    long law(int what, int t) {
        if (!within(what, 0, 2) || !isTrade(t)) {
            return Long.MIN_VALUE;
        }
        Long e = worth(new String[] {"length", "fame", "will"}[what], now, new Way(), t);
        return e == null ? Long.MIN_VALUE : e;
    }

    int length(int t) {
        return isTrade(t) ? lengthOf(now, new Way(), t) : -1;
    }

    void canUndo() {
        undos.addLast(new Object[] {new ArrayList<>(now.list), now.appointed});
        if (undos.size() > 20) {
            undos.removeFirst();
        }
    }

    boolean appoint(int t) {
        if (!isTrade(t)) {
            return false;
        }
        canUndo();
        now.appointed = t;
        return true;
    }

    int put(int p, int t) {
        if (!isPlace(p) || !isTrade(t)) {
            return -1;
        }
        canUndo();
        return now.list.set(p, t);
    }

    boolean swap(int p, int q) {
        if (!isPlace(p) || !isPlace(q) || p == q || now.list.get(p).equals(now.list.get(q))) {
            return false;
        }
        canUndo();
        now.list.set(p, now.list.set(q, now.list.get(p)));
        return true;
    }

    int go(int n) {
        if (!within(n, 0, 200) || now.day > 9800 - n) {
            return -1;
        }
        Way way = new Way();
        way.draws = true;
        days(now, way, n);
        if (n > 0) {
            undos.clear();
        }
        return now.day;
    }

    int done(World w) {
        return told.works.size() - leftOf(w);
    }

    int ahead(int n, int what, int t) {
        if (!within(n, 0, 200) || !within(what, 0, 4) || what == 1 && !isTrade(t)) {
            return -1;
        }
        World w = now.again();
        int sum = 0;
        int dark = 0;
        for (Day d : days(w, new Way(), n)) {
            sum += d.length;
            dark += d.who < 0 ? 1 : 0;
        }
        return new int[] {done(w), what == 1 ? w.known[t] : 0, dark, w.mistakes - now.mistakes, sum}[what];
    }

    int opener(int n) {
        if (!within(n, 0, 200)) {
            return -1;
        }
        int who = days(now.again(), new Way(), n + 1).get(n).who;
        return who < 0 ? -2 : who;
    }

    int longAt(int n) {
        if (!within(n, 0, 200)) {
            return -1;
        }
        Day d = days(now.again(), new Way(), n + 1).get(n);
        return d.who < 0 ? -2 : d.length;
    }

    int doneWhen(int k) {
        if (!isWork(k)) {
            return -1;
        }
        for (int n = 0; n <= 199; n++) {
            World w = now.again();
            days(w, new Way(), n);
            if (w.went[k] == told.works.get(k).need) {
                return n;
            }
        }
        return -2;
    }

    int soon(int t) {
        if (!isTrade(t)) {
            return -1;
        }
        List<Day> all = days(now.again(), new Way(), 199);
        for (int i = 0; i < 199; i++) {
            if (all.get(i).who == t) {
                return i + 1;
            }
        }
        return -2;
    }

    int out(int t) {
        if (!isTrade(t)) {
            return -1;
        }
        List<Day> all = days(now.again(), new Way(), 60);
        int most = 0;
        for (int from = 0; from < 60; from++) {
            int to = from;
            while (to < 60 && all.get(to).who != t) {
                to++;
            }
            most = Math.max(most, to - from);
        }
        return most;
    }

    int missing(int n) {
        return ahead(n, 2, 0);
    }

    /** All ways to give so many days to the trades, in any order: the last best one by its shares. */
    private int[] planned(int[] shares, int t, int left) {
        if (t == told.trades.size()) {
            return left == 0 && planDone(shares) ? shares.clone() : null;
        }
        int[] best = null;
        for (int k = 0; k <= left; k++) {
            shares[t] = k;
            int[] p = planned(shares, t + 1, left - k);
            best = p != null ? p : best;
        }
        shares[t] = 0;
        return best;
    }

    private boolean planDone(int[] shares) {
        for (int i = 0; i < told.works.size(); i++) {
            Work k = told.works.get(i);
            int went = now.went[i];
            for (int t = 0; t < told.trades.size(); t++) {
                int length = lengthOf(now, new Way(), t);
                went += k.low <= length && length <= k.high ? shares[t] : 0;
            }
            if (went < k.need) {
                return false;
            }
        }
        return true;
    }

    int plan(int what) {
        if (!within(what, 0, 6)) {
            return -1;
        }
        for (int n = 0; n <= 12; n++) {
            int[] p = planned(new int[6], 0, n);
            if (p != null) {
                return what == 6 ? n : what < told.trades.size() ? p[what] : -2;
            }
        }
        return -2;
    }

    int best(int n, int what) {
        if (!within(n, 1, 6) || !within(what, 0, 6)) {
            return -1;
        }
        int trades = told.trades.size();
        if (trades == 0 || what < 6 && what >= n) {
            return -2;
        }
        int rows = 1;
        for (int i = 0; i < n; i++) {
            rows *= trades;
        }
        int most = -1;
        int[] best = null;
        for (int code = 0; code < rows; code++) {
            int[] row = new int[n];
            for (int i = n - 1, c = code; i >= 0; i--, c /= trades) {
                row[i] = c % trades;
            }
            World w = now.again();
            for (int t : row) {
                w.appointed = t;
                day(w, new Way());
            }
            if (done(w) > most) {
                most = done(w);
                best = row;
            }
        }
        return what == 6 ? most : best[what];
    }

    int apart(int had, int p) {
        return Math.abs(p - told.manners.get(now.list.get(had)));
    }

    int fair(int place) {
        if (!isPlace(place)) {
            return -1;
        }
        Map<Integer, Integer> given = new HashMap<>();
        Set<Integer> left = new HashSet<>();
        for (int p = 0; p < now.list.size(); p++) {
            left.add(p);
        }
        while (!left.isEmpty()) {
            Map<Integer, Integer> to = new TreeMap<>();
            for (int p = now.list.size() - 1; p >= 0; p--) {
                for (int q = now.list.size() - 1; q >= 0; q--) {
                    if (left.contains(p) && left.contains(q)
                        && (!to.containsKey(p) || apart(p, q) <= apart(p, to.get(p)))) {
                        to.put(p, q);
                    }
                }
            }
            List<Integer> path = new ArrayList<>();
            int at = ((TreeMap<Integer, Integer>) to).firstKey();
            while (!path.contains(at)) {
                path.add(at);
                at = to.get(at);
            }
            for (int p : path.subList(path.indexOf(at), path.size())) {
                given.put(to.get(p), now.list.get(p));
                left.remove(p);
            }
        }
        return given.get(place);
    }

    int pairs() {
        int n = 0;
        for (int p = 0; p < now.list.size(); p++) {
            for (int q = 0; q < now.list.size(); q++) {
                n += apart(p, q) < apart(p, p) && apart(q, p) < apart(q, q) ? 1 : 0;
            }
        }
        return n / 2;
    }

    int power(int t) {
        if (!isTrade(t)) {
            return -1;
        }
        int n = 0;
        double half = now.list.size() / 2.0;
        for (int set = 0; set < 1 << told.trades.size(); set++) {
            int with = 0;
            int without = 0;
            for (int had : now.list) {
                with += (set >> had & 1) == 1 ? 1 : 0;
                without += (set >> had & 1) == 1 && had != t ? 1 : 0;
            }
            n += (set >> t & 1) == 1 && with > half && without <= half ? 1 : 0;
        }
        return n;
    }

    int even(int trades) {
        if (trades < 0 || trades >= 1 << told.trades.size()) {
            return -1;
        }
        for (int set = 0; set < 64; set++) {
            int one = 0;
            int other = 0;
            for (int t = 0; t < told.trades.size(); t++) {
                if ((trades >> t & 1) == 1) {
                    one += (set >> t & 1) == 1 ? placesOf(t) : 0;
                    other += (set >> t & 1) == 1 ? 0 : placesOf(t);
                }
            }
            if (one == other) {
                return 1;
            }
        }
        return 0;
    }

    int rare() {
        int rarest = -2;
        for (int t = told.trades.size() - 1; t >= 0; t--) {
            if (placesOf(t) > 0 && (rarest < 0 || now.opened[t] <= now.opened[rarest])) {
                rarest = t;
            }
        }
        return rarest;
    }

    private int[] both(int one, int other, int a, int b) {
        int m = told.manners.get(one);
        int n = told.manners.get(other);
        int less = Math.abs(told.hours.get(one) - told.hours.get(other)) / 3;
        if (a == 0 && b == 0) {
            return new int[] {m - less, n - less};
        }
        if (a == 0) {
            return new int[] {m + now.known[one] / 20, 2};
        }
        return b == 0 ? new int[] {2, n + now.known[other] / 20} : new int[] {1, 1};
    }

    private List<Integer> restsOf(int one, int other) {
        List<Integer> all = new ArrayList<>();
        for (int a = 0; a < 2; a++) {
            for (int b = 0; b < 2; b++) {
                if (both(one, other, a, b)[0] >= both(one, other, 1 - a, b)[0]
                    && both(one, other, a, b)[1] >= both(one, other, a, 1 - b)[1]) {
                    all.add(10 * a + b);
                }
            }
        }
        return all;
    }

    int rests(int one, int other) {
        return isTrade(one) && isTrade(other) && one != other ? restsOf(one, other).size() : -1;
    }

    int rest(int one, int other, int k) {
        if (!isTrade(one) || !isTrade(other) || one == other || k < 0) {
            return -1;
        }
        List<Integer> all = restsOf(one, other);
        return k < all.size() ? all.get(k) : -2;
    }

    long sure(int n, int what) {
        if (!within(n, 0, 6) || !within(what, 0, 1)) {
            return -1;
        }
        BigInteger above = BigInteger.valueOf(100 - told.slip()).pow(n);
        BigInteger below = BigInteger.valueOf(100).pow(n);
        BigInteger by = above.gcd(below);
        return (what == 0 ? above : below).divide(by).longValueExact();
    }

    int note(int days, int length, boolean atLeast) {
        if (!within(days, 1, 60) || !within(length, 0, 24) || notes.size() >= 24) {
            return -1;
        }
        Note n = new Note();
        n.days = days;
        n.length = length;
        n.atLeast = atLeast;
        notes.add(n);
        return notes.size() - 1;
    }

    int strike(int which) {
        if (!within(which, 0, notes.size() - 1) || notes.size() >= 24) {
            return -1;
        }
        Note n = new Note();
        n.strikes = which;
        notes.add(n);
        return notes.size() - 1;
    }

    boolean toldBy(int n) {
        if (!within(n, -1, notes.size())) {
            return false;
        }
        tellBy = n;
        return true;
    }

    /** Whether one of the first n notes is struck: by one behind it that isn't struck itself. */
    private boolean isStruck(int which, int n) {
        for (int i = which + 1; i < n; i++) {
            if (notes.get(i).strikes == which && !isStruck(i, n)) {
                return true;
            }
        }
        return false;
    }

    private int[] lasts(int t, int hour) {
        Way way = new Way();
        way.hours.put(t, hour);
        World w = new World(told);
        int[] all = new int[61];
        for (int d = 1; d <= 60; d++) {
            day(w, way);
            all[d] = w.last;
        }
        return all;
    }

    private Map<Integer, int[]> fitting(int t) {
        Map<Integer, int[]> fit = new TreeMap<>();
        int n = tellBy < 0 ? notes.size() : tellBy;
        for (int h = 0; h < 24; h++) {
            int[] lasts = lasts(t, h);
            boolean fits = true;
            for (int i = 0; i < n; i++) {
                Note k = notes.get(i);
                if (k.strikes < 0 && !isStruck(i, n)) {
                    fits &= k.atLeast ? lasts[k.days] >= k.length : lasts[k.days] < k.length;
                }
            }
            if (fits) {
                fit.put(h, lasts);
            }
        }
        return fit;
    }

    int hours(int t) {
        if (!isTrade(t)) {
            return -1;
        }
        int bits = 0;
        for (int h : fitting(t).keySet()) {
            bits += 1 << h;
        }
        return bits;
    }

    int ask(int t, int what) {
        if (!isTrade(t) || !within(what, 0, 1)) {
            return -1;
        }
        Map<Integer, int[]> fit = fitting(t);
        int days = 0;
        int worst = 99;
        for (int d = 60; d >= 1; d--) {
            int most = 0;
            Map<Integer, Integer> by = new HashMap<>();
            for (int[] lasts : fit.values()) {
                most = Math.max(most, by.merge(lasts[d], 1, Integer::sum));
            }
            if (most <= worst) {
                worst = most;
                days = d;
            }
        }
        return what == 0 ? days : worst;
    }

    int chance(int seed, int n, int k) {
        if (seed < 0 || !within(n, 1, 99) || !isWork(k)) {
            return -1;
        }
        long number = seed;
        int found = 0;
        for (int i = 0; i < 10; i++) {
            World w = now.again();
            w.number = number;
            Way way = new Way();
            way.draws = true;
            days(w, way, n);
            number = w.number;
            found += w.went[k] == told.works.get(k).need ? 1 : 0;
        }
        return found;
    }

    int tried(int what, int i, int n) {
        if (!within(what, 0, 4) || !within(n, 0, 200) || (what == 2 ? !isTrade(i) : i != 0)) {
            return -1;
        }
        Way way = new Way();
        way.mistakes = what == 0 ? Integer.valueOf(0) : what == 1 ? Integer.valueOf(100) : null;
        way.refuses = what == 2 ? i : -1;
        way.noClaims = what == 3;
        for (int t = 0; t < told.trades.size() && what == 4; t++) {
            way.hours.put(t, 0);
        }
        World w = now.again();
        days(w, way, n);
        return done(w);
    }

    @SuppressWarnings("unchecked")
    int undo() {
        if (undos.isEmpty()) {
            return -1;
        }
        Object[] before = undos.removeLast();
        now.list = (List<Integer>) before[0];
        now.appointed = (Integer) before[1];
        return undos.size();
    }

    int keep() {
        image = now.again();
        return now.day;
    }

    int back() {
        if (image == null) {
            return -1;
        }
        now = image.again();
        undos.clear();
        return now.day;
    }

    int count(int what) {
        if (!within(what, 0, 13)) {
            return -1;
        }
        int by = tellBy < 0 ? notes.size() : tellBy;
        return new int[] {told.trades.size(), now.list.size(), told.claims.size(), told.works.size(), told.knots,
            now.day, now.next, done(now), now.mistakes, now.dark, Arrays.stream(now.known).sum(), notes.size(), by,
            undos.size()}[what];
    }
}
