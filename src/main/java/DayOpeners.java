import java.util.NoSuchElementException;

// Each day is begun by another trade; ../shared/DOC.md says what every call answers.
public final class DayOpeners {
    public static final int NONE = -1;

    private static final int NO_ANSWER = -2;
    private static final int MOST_TAPE = 700;
    private static final int MOST_TRADES = 6;
    private static final int MOST_PLACES = 12;
    private static final int MOST_CLAIMS = 10;
    private static final int MOST_WORKS = 5;
    private static final int MOST_KNOTS = 64;
    private static final int MOST_OPEN = 8;
    private static final int MOST_NOTES = 24;
    private static final int MOST_UNDOS = 20;
    private static final int MOST_DAYS = 200;
    private static final int MOST_BEST_DAYS = 6;
    private static final int LAST_DAY = 9800;
    private static final int HOURS = 24;
    // The smallest long: no value of a formula comes near it.
    private static final long ERROR = 1L << 63;

    // The words of the language, numbered as they stand here.
    private static final String WORDS =
        "trade turn claim work slip seed law length fame will or and not hour manner known opened left last date";
    private static final int WORD_TRADE = 0;
    private static final int WORD_TURN = 1;
    private static final int WORD_CLAIM = 2;
    private static final int WORD_WORK = 3;
    private static final int WORD_SLIP = 4;
    private static final int WORD_SEED = 5;
    private static final int WORD_LAW = 6;
    private static final int WORD_LENGTH = 7;
    private static final int WORD_OR = 10;
    private static final int WORD_NOT = 12;
    private static final int WORD_HOUR = 13;
    private static final int WORD_COUNT = 20;

    private static final int RULES = 3;
    private static final int RULE_LENGTH = 0;
    private static final int RULE_FAME = 1;
    private static final int RULE_WILL = 2;

    // What a knot is; OPEN stands only on the parser's stack of signs.
    private static final int KNOT_NUMBER = 0;
    private static final int KNOT_NAME = 1;
    private static final int KNOT_OPEN = 2;
    private static final int KNOT_OR = 3;
    private static final int KNOT_AND = 4;
    private static final int KNOT_NOT = 5;
    private static final int KNOT_LESS = 6;
    private static final int KNOT_AT_MOST = 7;
    private static final int KNOT_SAME = 8;
    private static final int KNOT_OTHER = 9;
    private static final int KNOT_AT_LEAST = 10;
    private static final int KNOT_MORE = 11;
    private static final int KNOT_PLUS = 12;
    private static final int KNOT_MINUS = 13;
    private static final int KNOT_TIMES = 14;
    private static final int KNOT_BY = 15;

    private final Row tape = new Row(MOST_TAPE);
    private int taped;
    private final Parser parser = new Parser();
    private Told told = new Told();
    private Told spare = new Told();
    private final State now = new State();
    private final State trial = new State();
    private final State image = new State();
    private boolean imaged;
    private final Course course = new Course();
    private final Notes notes = new Notes();
    private final Steps steps = new Steps();
    private final Seats seats = new Seats();
    private final Plans plans = new Plans();

    public DayOpeners() {
    }

    public int feed(int a, int b, int c, int d, int e) {
        if (taped + 20 > MOST_TAPE) {
            return NONE;
        }
        tapeNumber(a);
        tapeNumber(b);
        tapeNumber(c);
        tapeNumber(d);
        tapeNumber(e);
        return taped;
    }

    private void tapeNumber(int number) {
        for (int shift = 24; shift >= 0; shift -= 8) {
            tape.set(taped, number >> shift & 255);
            taped++;
        }
    }

    public int text(int n) {
        if (n < 0 || n > taped) {
            return NO_ANSWER;
        }
        taped = 0;
        if (!parser.reads(tape, n, spare)) {
            return NONE;
        }
        Told before = told;
        told = spare;
        spare = before;
        now.starts(told);
        notes.clear();
        steps.clear();
        imaged = false;
        return told.lines;
    }

    public int fault(int what) {
        if (what == 0) {
            return parser.fault;
        }
        return what == 1 && parser.fault != 0 ? parser.place : NONE;
    }

    public int named(int what, int letters) {
        if (what == 0) {
            return told.tradeNamed(letters);
        }
        return what == 1 ? told.workNamed(letters) : NONE;
    }

    public int trade(int trade, int what) throws IndexOutOfBoundsException, NoSuchElementException {
        if (!told.hasTrade(trade)) {
            throw new IndexOutOfBoundsException();
        }
        switch (what) {
            case 0:
                return told.hours.get(trade);
            case 1:
                return told.manners.get(trade);
            case 2:
                return now.known.get(trade);
            case 3:
                return now.opened.get(trade);
            case 4:
                return now.placesOf(trade);
            default:
                throw new NoSuchElementException();
        }
    }

    public int place(int place) {
        return now.hasPlace(place) ? now.list.get(place) : NONE;
    }

    public int work(int work, int what) {
        if (!told.hasWork(work)) {
            return NONE;
        }
        switch (what) {
            case 0:
                return told.lows.get(work);
            case 1:
                return told.highs.get(work);
            case 2:
                return told.needs.get(work);
            case 3:
                return now.went.get(work);
            default:
                return NONE;
        }
    }

    public long law(int what, int trade) {
        if (what < 0 || what >= RULES || !told.hasTrade(trade)) {
            return ERROR;
        }
        course.goesOf(told);
        return course.worth(now, what, trade);
    }

    public int length(int trade) {
        if (!told.hasTrade(trade)) {
            return NONE;
        }
        course.goesOf(told);
        return course.lengthBy(now, trade);
    }

    public boolean appoint(int trade) {
        if (!told.hasTrade(trade)) {
            return false;
        }
        steps.add(now);
        now.appointed = trade;
        return true;
    }

    public int put(int place, int trade) {
        if (!now.hasPlace(place) || !told.hasTrade(trade)) {
            return NONE;
        }
        steps.add(now);
        int before = now.list.get(place);
        now.list.set(place, trade);
        return before;
    }

    public boolean swap(int one, int other) {
        if (!now.hasPlace(one) || !now.hasPlace(other)) {
            return false;
        }
        int first = now.list.get(one);
        int second = now.list.get(other);
        if (first == second) {
            return false;
        }
        steps.add(now);
        now.list.set(one, second);
        now.list.set(other, first);
        return true;
    }

    public int go(int n) {
        if (!isDays(n) || now.day + n > LAST_DAY) {
            return NONE;
        }
        course.goesOf(told);
        course.drawing = true;
        course.daysGo(now, n);
        if (n > 0) {
            steps.clear();
        }
        return now.day;
    }

    private static boolean isDays(int n) {
        return n >= 0 && n <= MOST_DAYS;
    }

    private void tryDays(int n) {
        course.goesOf(told);
        trial.copy(now);
        for (int i = 0; i < n; i++) {
            course.dayGoes(trial);
        }
    }

    public int ahead(int n, int what, int trade) {
        if (!isDays(n) || what < 0 || what > 4 || what == 1 && !told.hasTrade(trade)) {
            return NONE;
        }
        tryDays(n);
        switch (what) {
            case 0:
                return told.works - trial.left;
            case 1:
                return trial.known.get(trade);
            case 2:
                return trial.dark - now.dark;
            case 3:
                return trial.mistakes - now.mistakes;
            default:
                return trial.lengths - now.lengths;
        }
    }

    public int opener(int n) {
        if (!isDays(n)) {
            return NONE;
        }
        tryDays(n + 1);
        return trial.by == NONE ? NO_ANSWER : trial.by;
    }

    public int longAt(int n) {
        if (!isDays(n)) {
            return NONE;
        }
        tryDays(n + 1);
        return trial.by == NONE ? NO_ANSWER : trial.last;
    }

    public int doneWhen(int work) {
        if (!told.hasWork(work)) {
            return NONE;
        }
        tryDays(0);
        for (int days = 0; days < MOST_DAYS; days++) {
            if (trial.went.get(work) >= told.needs.get(work)) {
                return days;
            }
            course.dayGoes(trial);
        }
        return NO_ANSWER;
    }

    public int soon(int trade) {
        if (!told.hasTrade(trade)) {
            return NONE;
        }
        tryDays(0);
        for (int days = 1; days < MOST_DAYS; days++) {
            course.dayGoes(trial);
            if (trial.by == trade) {
                return days;
            }
        }
        return NO_ANSWER;
    }

    public int out(int trade) {
        if (!told.hasTrade(trade)) {
            return NONE;
        }
        tryDays(0);
        int running = 0;
        int most = 0;
        for (int days = 0; days < 60; days++) {
            course.dayGoes(trial);
            running = trial.by == trade ? 0 : running + 1;
            most = Math.max(most, running);
        }
        return most;
    }

    public int missing(int n) {
        if (!isDays(n)) {
            return NONE;
        }
        tryDays(n);
        return trial.dark - now.dark;
    }

    public int plan(int what) {
        if (what < 0 || what > MOST_TRADES) {
            return NONE;
        }
        course.goesOf(told);
        int days = plans.fewest(told, now, course);
        if (days == NO_ANSWER || what == MOST_TRADES) {
            return days;
        }
        return told.hasTrade(what) ? plans.shares.get(what) : NO_ANSWER;
    }

    public int best(int n, int what) {
        if (n < 1 || n > MOST_BEST_DAYS || what < 0 || what > MOST_BEST_DAYS) {
            return NONE;
        }
        if (told.trades == 0 || what >= n && what < MOST_BEST_DAYS) {
            return NO_ANSWER;
        }
        course.goesOf(told);
        plans.begin(told, now, n);
        Plans.seek(plans, 0, course);
        return what == MOST_BEST_DAYS ? plans.most : plans.bestRow.get(what);
    }

    public int fair(int place) {
        if (!now.hasPlace(place)) {
            return NONE;
        }
        seats.share(told, now);
        return seats.gets.get(place);
    }

    public int pairs() {
        return seats.changers(told, now);
    }

    public int power(int trade) {
        if (!told.hasTrade(trade)) {
            return NONE;
        }
        seats.weigh(told, now);
        return seats.decides(trade, told.trades, now.places);
    }

    public int even(int trades) {
        if (trades < 0 || trades >> told.trades != 0) {
            return NONE;
        }
        seats.weigh(told, now);
        return seats.canHalve(trades) ? 1 : 0;
    }

    public int rare() {
        int rarest = NO_ANSWER;
        for (int trade = 0; trade < told.trades; trade++) {
            boolean fewer = rarest == NO_ANSWER || now.opened.get(trade) < now.opened.get(rarest);
            if (fewer && now.placesOf(trade) > 0) {
                rarest = trade;
            }
        }
        return rarest;
    }

    public int rests(int one, int other) {
        if (one == other || !told.hasTrade(one) || !told.hasTrade(other)) {
            return NONE;
        }
        int found = 0;
        for (int moves = 0; moves < 4; moves++) {
            if (isRest(one, other, moves)) {
                found++;
            }
        }
        return found;
    }

    public int rest(int one, int other, int k) {
        if (one == other || !told.hasTrade(one) || !told.hasTrade(other) || k < 0) {
            return NONE;
        }
        int left = k;
        for (int moves = 0; moves < 4; moves++) {
            if (isRest(one, other, moves)) {
                if (left == 0) {
                    return 10 * (moves >> 1) + (moves & 1);
                }
                left--;
            }
        }
        return NO_ANSWER;
    }

    private boolean isRest(int one, int other, int moves) {
        int first = moves >> 1;
        int second = moves & 1;
        return gain(one, other, first, second) >= gain(one, other, 1 - first, second)
            && gain(other, one, second, first) >= gain(other, one, 1 - second, first);
    }

    // What the first of two trades has; of the moves, 0 opens and 1 passes.
    private int gain(int trade, int against, int move, int answer) {
        int manner = told.manners.get(trade);
        if (move == 0 && answer == 0) {
            return manner - Math.abs(told.hours.get(trade) - told.hours.get(against)) / 3;
        }
        if (move == 0) {
            return manner + now.known.get(trade) / 20;
        }
        return answer == 0 ? 2 : 1;
    }

    public long sure(int n, int what) {
        if (n < 0 || n > 6 || what < 0 || what > 1) {
            return NONE;
        }
        int above = 100 - told.slip;
        int below = 100;
        for (int by = 100; by > 1; by--) {
            if (above % by == 0 && below % by == 0) {
                above /= by;
                below /= by;
            }
        }
        long fraction = 1;
        for (int i = 0; i < n; i++) {
            fraction *= what == 0 ? above : below;
        }
        return fraction;
    }

    public int note(int days, int length, boolean atLeast) {
        if (days < 1 || days > Notes.MOST_BEHIND || length < 0 || length > HOURS) {
            return NONE;
        }
        return notes.add(atLeast ? Notes.AT_LEAST : Notes.LESS, days, length);
    }

    public int strike(int note) {
        if (note < 0 || note >= notes.size) {
            return NONE;
        }
        return notes.add(Notes.STRIKES, note, 0);
    }

    public boolean toldBy(int n) {
        if (n < NONE || n > notes.size) {
            return false;
        }
        notes.by = n;
        return true;
    }

    public int hours(int trade) {
        if (!told.hasTrade(trade)) {
            return NONE;
        }
        watchHours(trade, 0);
        return notes.fitting();
    }

    public int ask(int trade, int what) {
        if (!told.hasTrade(trade) || what < 0 || what > 1) {
            return NONE;
        }
        watchHours(trade, Notes.MOST_BEHIND);
        notes.seekQuestion(notes.fitting());
        return what == 0 ? notes.askedBehind : notes.leftAtWorst;
    }

    // Lets days go by from the text on with each hour that the trade may have.
    private void watchHours(int trade, int leastDays) {
        course.goesOf(told);
        notes.strikeOut();
        int days = Math.max(leastDays, notes.longest());
        for (int hour = 0; hour < HOURS; hour++) {
            course.hours.set(trade, hour);
            trial.starts(told);
            for (int day = 1; day <= days; day++) {
                course.dayGoes(trial);
                notes.sees(hour, day, trial.last);
            }
        }
    }

    public int chance(int seed, int n, int work) {
        if (seed < 0 || n < 1 || n > 99 || !told.hasWork(work)) {
            return NONE;
        }
        course.goesOf(told);
        course.drawing = true;
        int number = seed;
        int found = 0;
        for (int i = 0; i < 10; i++) {
            trial.copy(now);
            trial.number = number;
            course.daysGo(trial, n);
            number = trial.number;
            if (trial.went.get(work) >= told.needs.get(work)) {
                found++;
            }
        }
        return found;
    }

    public int tried(int what, int i, int n) {
        boolean known = what == 2 ? told.hasTrade(i) : what >= 0 && what <= 4 && i == 0;
        if (!known || !isDays(n)) {
            return NONE;
        }
        course.goesOf(told);
        course.differs(what, i);
        trial.copy(now);
        course.daysGo(trial, n);
        return told.works - trial.left;
    }

    public int undo() {
        return steps.takeBack(now);
    }

    public int keep() {
        image.copy(now);
        imaged = true;
        return now.day;
    }

    public int back() {
        if (!imaged) {
            return NONE;
        }
        now.copy(image);
        steps.clear();
        return now.day;
    }

    public int count(int what) {
        switch (what) {
            case 0:
                return told.trades;
            case 1:
                return now.places;
            case 2:
                return told.claims;
            case 3:
                return told.works;
            case 4:
                return told.laws.knots;
            case 5:
                return now.day;
            case 6:
                return now.next;
            case 7:
                return told.works - now.left;
            case 8:
                return now.mistakes;
            case 9:
                return now.dark;
            case 10:
                return now.known.sum();
            case 11:
                return notes.size;
            case 12:
                return notes.byHowMany();
            case 13:
                return steps.size;
            default:
                return NONE;
        }
    }

    // Numbers in a row; every index is tested here, so that no place of the program needs to.
    private static final class Row {
        private final int[] cells;

        Row(int size) {
            cells = new int[Math.max(size, 0)];
        }

        int get(int i) {
            return i >= 0 && i < cells.length ? cells[i] : 0;
        }

        void set(int i, int value) {
            if (i >= 0 && i < cells.length) {
                cells[i] = value;
            }
        }

        void fill(int value) {
            for (int i = 0; i < cells.length; i++) {
                cells[i] = value;
            }
        }

        void copy(Row from) {
            System.arraycopy(from.cells, 0, cells, 0, Math.min(cells.length, from.cells.length));
        }

        int sum() {
            int sum = 0;
            for (int i = 0; i < cells.length; i++) {
                sum += cells[i];
            }
            return sum;
        }
    }

    // What a text tells; nothing of it changes by days or calls.
    private static final class Told {
        private int lines;
        private int trades;
        private final Row tradeNames = new Row(MOST_TRADES);
        private final Row hours = new Row(MOST_TRADES);
        private final Row manners = new Row(MOST_TRADES);
        private int turns;
        private final Row list = new Row(MOST_PLACES);
        private int claims;
        private final Row claimants = new Row(MOST_CLAIMS);
        private final Row dates = new Row(MOST_CLAIMS);
        private int works;
        private final Row workNames = new Row(MOST_WORKS);
        private final Row lows = new Row(MOST_WORKS);
        private final Row highs = new Row(MOST_WORKS);
        private final Row needs = new Row(MOST_WORKS);
        private int slip;
        private int seed;
        private final Laws laws = new Laws();

        void clear() {
            lines = 0;
            trades = 0;
            turns = 0;
            claims = 0;
            works = 0;
            slip = 0;
            seed = 0;
            laws.clear();
        }

        boolean hasTrade(int trade) {
            return trade >= 0 && trade < trades;
        }

        boolean hasWork(int work) {
            return work >= 0 && work < works;
        }

        int tradeNamed(int letters) {
            return find(tradeNames, trades, letters);
        }

        int workNamed(int letters) {
            return find(workNames, works, letters);
        }

        int claimant(int date) {
            int claim = find(dates, claims, date);
            return claim == NONE ? NONE : claimants.get(claim);
        }

        private static int find(Row row, int size, int value) {
            for (int i = 0; i < size; i++) {
                if (row.get(i) == value) {
                    return i;
                }
            }
            return NONE;
        }
    }

    // The formulas of the laws, each kept with its signs behind what they join.
    private static final class Laws {
        private static final long MOST = 1000000000000L;

        private final Row kinds = new Row(MOST_KNOTS);
        private final Row values = new Row(MOST_KNOTS);
        private final Row begins = new Row(RULES);
        private final Row ends = new Row(RULES);
        private final long[] names = new long[WORD_COUNT - WORD_HOUR];
        private final long[] stack = new long[MOST_KNOTS];
        private int knots;

        void clear() {
            knots = 0;
            begins.fill(0);
            ends.fill(0);
        }

        void begin(int rule) {
            begins.set(rule, knots);
        }

        void add(int kind, int value) {
            kinds.set(knots, kind);
            values.set(knots, value);
            knots++;
        }

        void end(int rule) {
            ends.set(rule, knots);
        }

        boolean has(int rule) {
            return ends.get(rule) > begins.get(rule);
        }

        void setName(int name, long value) {
            if (name >= 0 && name < names.length) {
                names[name] = value;
            }
        }

        private long nameWorth(int name) {
            return name >= 0 && name < names.length ? names[name] : 0;
        }

        long worth(int rule) {
            int end = ends.get(rule);
            int top = 0;
            for (int i = begins.get(rule); i < end; i++) {
                int kind = kinds.get(i);
                if (kind == KNOT_NUMBER || kind == KNOT_NAME) {
                    if (top >= stack.length) {
                        return ERROR;
                    }
                    stack[top] = kind == KNOT_NUMBER ? values.get(i) : nameWorth(values.get(i));
                    top++;
                } else {
                    int first = kind == KNOT_NOT ? top - 1 : top - 2;
                    if (first < 0 || top > stack.length) {
                        return ERROR;
                    }
                    long value = joined(kind, stack[first], stack[top - 1]);
                    if (value > MOST || value < -MOST) {
                        return ERROR;
                    }
                    stack[first] = value;
                    top = first + 1;
                }
            }
            return top == 1 ? stack[0] : ERROR;
        }

        private static long joined(int kind, long left, long right) {
            switch (kind) {
                case KNOT_NOT:
                    return right == 0 ? 1 : 0;
                case KNOT_OR:
                    return left != 0 || right != 0 ? 1 : 0;
                case KNOT_AND:
                    return left != 0 && right != 0 ? 1 : 0;
                case KNOT_LESS:
                    return left < right ? 1 : 0;
                case KNOT_AT_MOST:
                    return left <= right ? 1 : 0;
                case KNOT_SAME:
                    return left == right ? 1 : 0;
                case KNOT_OTHER:
                    return left != right ? 1 : 0;
                case KNOT_AT_LEAST:
                    return left >= right ? 1 : 0;
                case KNOT_MORE:
                    return left > right ? 1 : 0;
                case KNOT_PLUS:
                    return left + right;
                case KNOT_MINUS:
                    return left - right;
                case KNOT_TIMES:
                    // Tested by dividing: the product itself may not fit in a long.
                    boolean fits = left == 0 || Math.abs(right) <= MOST / Math.abs(left);
                    return fits ? left * right : ERROR;
                case KNOT_BY:
                    return right == 0 ? ERROR : left / right;
                default:
                    return ERROR;
            }
        }
    }

    // Cuts a text into tokens, one ahead at a time.
    private static final class Tokens {
        private static final int END = 0;
        private static final int BAD = 1;
        private static final int OWN_WORD = 2;
        private static final int WORD = 3;
        private static final int NUMBER = 4;
        private static final int SEMICOLON = 5;
        private static final int OPEN = 6;
        private static final int CLOSE = 7;
        private static final int SIGN = 8;
        private static final int LONGEST_WORD = 6;
        // Above all that a text may tell, so that longer numbers are too much as well.
        private static final int TOO_HIGH = 1000000;

        private final Row words = new Row(WORD_COUNT);
        private Row bytes = new Row(0);
        private int size;
        private int at;
        private int place;
        private int kind;
        // The letters of a word of one's own, the number of a word of the language,
        // a number itself, or the knot of a sign.
        private int value;

        Tokens() {
            int word = 0;
            int letters = 0;
            int shift = 25;
            for (int i = 0; i < WORDS.length(); i++) {
                char c = WORDS.charAt(i);
                if (c == ' ') {
                    word++;
                    letters = 0;
                    shift = 25;
                } else {
                    letters |= c - 'a' + 1 << shift;
                    shift -= 5;
                }
                words.set(word, letters);
            }
        }

        void begin(Row text, int length) {
            bytes = text;
            size = length;
            at = 0;
            next();
        }

        void next() {
            while (at < size && isBlank(bytes.get(at))) {
                at++;
            }
            place = at;
            int c = bytes.get(at);
            if (at >= size) {
                kind = END;
            } else if (isLetter(c)) {
                nextWord();
            } else if (isDigit(c)) {
                nextNumber();
            } else {
                nextSign(c);
            }
        }

        private static boolean isBlank(int c) {
            return c == 32 || c == 10;
        }

        private static boolean isLetter(int c) {
            return c >= 'a' && c <= 'z';
        }

        private static boolean isDigit(int c) {
            return c >= '0' && c <= '9';
        }

        private void nextWord() {
            int letters = 0;
            while (at < size && isLetter(bytes.get(at))) {
                if (at - place < LONGEST_WORD) {
                    letters |= bytes.get(at) - 'a' + 1 << 25 - 5 * (at - place);
                }
                at++;
            }
            kind = at - place > LONGEST_WORD ? BAD : OWN_WORD;
            value = letters;
            for (int word = 0; word < WORD_COUNT && kind == OWN_WORD; word++) {
                if (words.get(word) == letters) {
                    kind = WORD;
                    value = word;
                }
            }
            if (kind == WORD && value >= WORD_OR && value <= WORD_NOT) {
                kind = SIGN;
                value = KNOT_OR + value - WORD_OR;
            }
        }

        private void nextNumber() {
            kind = NUMBER;
            value = 0;
            while (at < size && isDigit(bytes.get(at))) {
                value = Math.min(TOO_HIGH, value * 10 + bytes.get(at) - '0');
                at++;
            }
        }

        private void nextSign(int c) {
            at++;
            int behind = at < size ? bytes.get(at) : 0;
            kind = SIGN;
            switch (c) {
                case ';':
                    kind = SEMICOLON;
                    break;
                case '(':
                    kind = OPEN;
                    break;
                case ')':
                    kind = CLOSE;
                    break;
                case '+':
                    value = KNOT_PLUS;
                    break;
                case '-':
                    value = KNOT_MINUS;
                    break;
                case '*':
                    value = KNOT_TIMES;
                    break;
                case '/':
                    value = KNOT_BY;
                    break;
                case '=':
                    value = KNOT_SAME;
                    break;
                case '<':
                    value = behind == '=' ? KNOT_AT_MOST : behind == '>' ? KNOT_OTHER : KNOT_LESS;
                    at += value == KNOT_LESS ? 0 : 1;
                    break;
                case '>':
                    value = behind == '=' ? KNOT_AT_LEAST : KNOT_MORE;
                    at += value == KNOT_MORE ? 0 : 1;
                    break;
                default:
                    kind = BAD;
                    break;
            }
        }
    }

    // Reads a text from left to right, so that the first fault along it is the one that is found.
    private static final class Parser {
        private static final int WRONG = 1;
        private static final int TOO_MUCH = 2;
        private static final int AGAIN = 3;
        private static final int UNTOLD = 4;

        private final Tokens tokens = new Tokens();
        private Told told = new Told();
        private int fault;
        private int place;
        private boolean slipTold;
        private boolean seedTold;
        // The signs and the open '(' that wait for what stands behind them.
        private final Row waiting = new Row(MOST_KNOTS + MOST_OPEN);
        private int waits;
        private int open;
        private int counted;

        boolean reads(Row text, int size, Told into) {
            told = into;
            told.clear();
            fault = 0;
            slipTold = false;
            seedTold = false;
            counted = 0;
            tokens.begin(text, size);
            for (int i = 0; i < size && tokens.kind != Tokens.END; i++) {
                if (!line()) {
                    return false;
                }
                told.lines++;
            }
            return true;
        }

        private boolean fails(int kind) {
            fault = kind;
            place = tokens.place;
            return false;
        }

        private boolean line() {
            if (tokens.kind != Tokens.WORD) {
                return fails(WRONG);
            }
            switch (tokens.value) {
                case WORD_TRADE:
                    return trades() && ends();
                case WORD_TURN:
                    return turns() && ends();
                case WORD_CLAIM:
                    return claims() && ends();
                case WORD_WORK:
                    return works() && ends();
                case WORD_SLIP:
                    return slips() && ends();
                case WORD_SEED:
                    return seeds() && ends();
                case WORD_LAW:
                    return laws() && ends();
                default:
                    return fails(WRONG);
            }
        }

        private boolean ends() {
            if (tokens.kind != Tokens.SEMICOLON) {
                return fails(WRONG);
            }
            tokens.next();
            return true;
        }

        private boolean isNewName(int among) {
            if (tokens.kind != Tokens.OWN_WORD) {
                return fails(WRONG);
            }
            int letters = tokens.value;
            int known = among == WORD_TRADE ? told.tradeNamed(letters) : told.workNamed(letters);
            return known == NONE || fails(AGAIN);
        }

        private boolean isTrade() {
            if (tokens.kind != Tokens.OWN_WORD) {
                return fails(WRONG);
            }
            return told.tradeNamed(tokens.value) != NONE || fails(UNTOLD);
        }

        private boolean isNumber(int low, int high) {
            if (tokens.kind != Tokens.NUMBER) {
                return fails(WRONG);
            }
            return tokens.value >= low && tokens.value <= high || fails(TOO_MUCH);
        }

        private int taken() {
            int value = tokens.value;
            tokens.next();
            return value;
        }

        private boolean trades() {
            if (told.trades >= MOST_TRADES) {
                return fails(TOO_MUCH);
            }
            tokens.next();
            if (!isNewName(WORD_TRADE)) {
                return false;
            }
            told.tradeNames.set(told.trades, taken());
            if (!isNumber(0, 23)) {
                return false;
            }
            told.hours.set(told.trades, taken());
            if (!isNumber(0, 9)) {
                return false;
            }
            told.manners.set(told.trades, taken());
            told.trades++;
            return true;
        }

        private boolean turns() {
            if (told.turns >= MOST_PLACES) {
                return fails(TOO_MUCH);
            }
            tokens.next();
            if (!isTrade()) {
                return false;
            }
            told.list.set(told.turns, told.tradeNamed(taken()));
            told.turns++;
            return true;
        }

        private boolean claims() {
            if (told.claims >= MOST_CLAIMS) {
                return fails(TOO_MUCH);
            }
            tokens.next();
            if (!isTrade()) {
                return false;
            }
            told.claimants.set(told.claims, told.tradeNamed(taken()));
            if (!isNumber(0, 99)) {
                return false;
            }
            if (told.claimant(tokens.value) != NONE) {
                return fails(AGAIN);
            }
            told.dates.set(told.claims, taken());
            told.claims++;
            return true;
        }

        private boolean works() {
            if (told.works >= MOST_WORKS) {
                return fails(TOO_MUCH);
            }
            tokens.next();
            if (!isNewName(WORD_WORK)) {
                return false;
            }
            told.workNames.set(told.works, taken());
            if (!isNumber(0, HOURS)) {
                return false;
            }
            told.lows.set(told.works, taken());
            if (!isNumber(0, HOURS)) {
                return false;
            }
            told.highs.set(told.works, taken());
            if (!isNumber(1, 9)) {
                return false;
            }
            told.needs.set(told.works, taken());
            told.works++;
            return true;
        }

        private boolean slips() {
            if (slipTold) {
                return fails(AGAIN);
            }
            slipTold = true;
            tokens.next();
            if (!isNumber(0, 100)) {
                return false;
            }
            told.slip = taken();
            return true;
        }

        private boolean seeds() {
            if (seedTold) {
                return fails(AGAIN);
            }
            seedTold = true;
            tokens.next();
            if (!isNumber(0, 99999)) {
                return false;
            }
            told.seed = taken();
            return true;
        }

        private boolean laws() {
            tokens.next();
            int rule = tokens.value - WORD_LENGTH;
            if (tokens.kind != Tokens.WORD || rule < 0 || rule >= RULES) {
                return fails(WRONG);
            }
            if (told.laws.has(rule)) {
                return fails(AGAIN);
            }
            told.laws.begin(rule);
            waits = 0;
            open = 0;
            boolean wants = true;
            for (int i = 0; i < MOST_TAPE; i++) {
                tokens.next();
                if (!wants && open == 0 && tokens.kind == Tokens.SEMICOLON) {
                    break;
                }
                // Behind 'not' and '(' still a part must come, behind ')' none.
                boolean part = tokens.kind == Tokens.NUMBER || tokens.kind == Tokens.WORD;
                boolean sign = tokens.kind == Tokens.SIGN && tokens.value != KNOT_NOT;
                if (!(wants ? beginsPart() : endsPart())) {
                    return false;
                }
                wants = wants ? !part : sign;
            }
            unwind(0);
            told.laws.end(rule);
            return true;
        }

        // What may stand where a part of a formula begins: a number, a name, '(' or 'not'.
        private boolean beginsPart() {
            int value = tokens.value;
            if (tokens.kind == Tokens.NUMBER) {
                return isNumber(0, 9999) && counts() && tells(KNOT_NUMBER, value);
            }
            if (tokens.kind == Tokens.WORD && value >= WORD_HOUR) {
                return counts() && tells(KNOT_NAME, value - WORD_HOUR);
            }
            if (tokens.kind == Tokens.OPEN) {
                if (open >= MOST_OPEN) {
                    return fails(TOO_MUCH);
                }
                open++;
                return hold(KNOT_OPEN);
            }
            boolean isNot = tokens.kind == Tokens.SIGN && value == KNOT_NOT;
            // 'not' stands before a whole comparison, never inside one.
            if (!isNot || rank(topWaiting()) > rank(KNOT_NOT)) {
                return fails(WRONG);
            }
            return counts() && hold(KNOT_NOT);
        }

        // What may stand where a part of a formula is complete: a sign that joins, or ')'.
        private boolean endsPart() {
            if (tokens.kind == Tokens.CLOSE && open > 0) {
                unwind(rank(KNOT_OPEN) + 1);
                waits--;
                open--;
                return true;
            }
            if (tokens.kind != Tokens.SIGN || tokens.value == KNOT_NOT) {
                return fails(WRONG);
            }
            int rank = rank(tokens.value);
            boolean compares = rank == rank(KNOT_SAME);
            unwind(compares ? rank + 1 : rank);
            if (compares && rank(topWaiting()) == rank) {
                return fails(WRONG);
            }
            return counts() && hold(tokens.value);
        }

        private boolean counts() {
            if (counted >= MOST_KNOTS) {
                return fails(TOO_MUCH);
            }
            counted++;
            return true;
        }

        private boolean tells(int knot, int value) {
            told.laws.add(knot, value);
            return true;
        }

        private boolean hold(int knot) {
            waiting.set(waits, knot);
            waits++;
            return true;
        }

        private int topWaiting() {
            return waits > 0 ? waiting.get(waits - 1) : KNOT_OPEN;
        }

        // Signs of this rank or of a higher one have all that they join.
        private void unwind(int rank) {
            for (int i = waits - 1; i >= 0 && rank(waiting.get(i)) >= rank; i--) {
                told.laws.add(waiting.get(i), 0);
                waits = i;
            }
        }

        private static int rank(int knot) {
            if (knot >= KNOT_TIMES) {
                return 6;
            }
            if (knot >= KNOT_PLUS) {
                return 5;
            }
            return knot >= KNOT_LESS ? 4 : knot - KNOT_OPEN;
        }
    }

    // How things stand on a day.
    private static final class State {
        private int day;
        private int next;
        private int number;
        private int appointed = NONE;
        private int last;
        private int left;
        private int mistakes;
        private int dark;
        private int lengths;
        // Who opened the day ahead of this one.
        private int by = NONE;
        private int places;
        private final Row list = new Row(MOST_PLACES);
        private final Row known = new Row(MOST_TRADES);
        private final Row opened = new Row(MOST_TRADES);
        private final Row went = new Row(MOST_WORKS);

        void starts(Told told) {
            day = 0;
            next = 0;
            number = told.seed;
            appointed = NONE;
            last = 0;
            left = told.works;
            mistakes = 0;
            dark = 0;
            lengths = 0;
            by = NONE;
            places = told.turns;
            list.copy(told.list);
            known.fill(0);
            opened.fill(0);
            went.fill(0);
        }

        void copy(State from) {
            day = from.day;
            next = from.next;
            number = from.number;
            appointed = from.appointed;
            last = from.last;
            left = from.left;
            mistakes = from.mistakes;
            dark = from.dark;
            lengths = from.lengths;
            by = from.by;
            places = from.places;
            list.copy(from.list);
            known.copy(from.known);
            opened.copy(from.opened);
            went.copy(from.went);
        }

        boolean hasPlace(int place) {
            return place >= 0 && place < places;
        }

        int placesOf(int trade) {
            int found = 0;
            for (int place = 0; place < places; place++) {
                if (list.get(place) == trade) {
                    found++;
                }
            }
            return found;
        }

        int behind(int place) {
            return place + 1 < places ? place + 1 : 0;
        }

        int draw() {
            number = number * 1103515245 + 12345 & 2147483647;
            return number / 65536;
        }

        void opens(int trade, int length, int fame) {
            by = trade;
            last = length;
            lengths += length;
            known.set(trade, Math.max(0, Math.min(999, known.get(trade) + fame)));
            opened.set(trade, Math.min(9999, opened.get(trade) + 1));
        }

        void bringOn(Told told, int length) {
            for (int work = 0; work < told.works; work++) {
                int days = went.get(work);
                boolean suits = told.lows.get(work) <= length && told.highs.get(work) >= length;
                if (suits && days < told.needs.get(work)) {
                    went.set(work, days + 1);
                    left -= days + 1 == told.needs.get(work) ? 1 : 0;
                }
            }
        }
    }

    // How days go by: as they are told, or in some point otherwise.
    private static final class Course {
        private Told told = new Told();
        private final Row hours = new Row(MOST_TRADES);
        private boolean drawing;
        private boolean claimsHold;
        private int slip;
        private int unwilling;

        void goesOf(Told text) {
            told = text;
            hours.copy(told.hours);
            drawing = false;
            claimsHold = true;
            slip = told.slip;
            unwilling = NONE;
        }

        void differs(int what, int trade) {
            switch (what) {
                case 0:
                    slip = 0;
                    break;
                case 1:
                    slip = 100;
                    break;
                case 2:
                    unwilling = trade;
                    break;
                case 3:
                    claimsHold = false;
                    break;
                default:
                    hours.fill(0);
                    break;
            }
        }

        void daysGo(State state, int days) {
            for (int i = 0; i < days; i++) {
                dayGoes(state);
            }
        }

        void dayGoes(State state) {
            int who = state.appointed;
            if (who == NONE && claimsHold) {
                who = told.claimant(state.day);
            }
            if (who == NONE && state.places > 0) {
                who = byTurns(state);
            }
            if (who == NONE) {
                state.by = NONE;
                state.dark++;
            } else {
                int length = lengthBy(state, who);
                int fame = bounded(worth(state, RULE_FAME, who), -9, 9, 1);
                state.opens(who, length, fame);
                state.bringOn(told, length);
            }
            state.appointed = NONE;
            state.day++;
        }

        private int byTurns(State state) {
            if (isMistake(state)) {
                state.mistakes++;
                state.next = state.behind(state.next);
            }
            int place = state.next;
            int refused = 0;
            for (int i = 0; i < state.places; i++) {
                int trade = state.list.get(place);
                place = state.behind(place);
                if ((refused >> trade & 1) == 0) {
                    if (trade != unwilling && worth(state, RULE_WILL, trade) != 0) {
                        state.next = place;
                        return trade;
                    }
                    refused |= 1 << trade;
                }
            }
            return NONE;
        }

        private boolean isMistake(State state) {
            if (slip == 0 || slip == 100) {
                return slip == 100;
            }
            return drawing ? state.draw() % 100 < slip : slip >= 50;
        }

        int lengthBy(State state, int trade) {
            return bounded(worth(state, RULE_LENGTH, trade), 0, HOURS, HOURS - hours.get(trade));
        }

        private static int bounded(long worth, int low, int high, int without) {
            return worth == ERROR ? without : (int) Math.max(low, Math.min(high, worth));
        }

        long worth(State state, int rule, int trade) {
            Laws laws = told.laws;
            if (!laws.has(rule)) {
                return ERROR;
            }
            laws.setName(0, hours.get(trade));
            laws.setName(1, told.manners.get(trade));
            laws.setName(2, state.known.get(trade));
            laws.setName(3, state.opened.get(trade));
            laws.setName(4, state.left);
            laws.setName(5, state.last);
            laws.setName(6, state.day);
            return laws.worth(rule);
        }
    }

    // What was noted of days, and which hours a trade may have by it.
    private static final class Notes {
        private static final int AT_LEAST = 0;
        private static final int LESS = 1;
        private static final int STRIKES = 2;
        private static final int MOST_BEHIND = 60;

        private final Row kinds = new Row(MOST_NOTES);
        // Behind how many days, or which note is struck.
        private final Row abouts = new Row(MOST_NOTES);
        private final Row lengths = new Row(MOST_NOTES);
        private final Row struck = new Row(MOST_NOTES);
        private final Row lasts = new Row(HOURS * MOST_BEHIND);
        private final Row answers = new Row(HOURS + 1);
        private int size;
        private int by = NONE;
        private int askedBehind;
        private int leftAtWorst;

        void clear() {
            size = 0;
            by = NONE;
        }

        int add(int kind, int about, int length) {
            if (size >= MOST_NOTES) {
                return NONE;
            }
            kinds.set(size, kind);
            abouts.set(size, about);
            lengths.set(size, length);
            size++;
            return size - 1;
        }

        int byHowMany() {
            return by == NONE ? size : by;
        }

        // A note is struck only by those behind it: from the last one on, who strikes is settled.
        void strikeOut() {
            struck.fill(0);
            for (int note = byHowMany() - 1; note >= 0; note--) {
                if (kinds.get(note) == STRIKES && struck.get(note) == 0) {
                    struck.set(abouts.get(note), 1);
                }
            }
        }

        private boolean tells(int note) {
            return kinds.get(note) != STRIKES && struck.get(note) == 0;
        }

        int longest() {
            int days = 0;
            for (int note = 0; note < byHowMany(); note++) {
                if (tells(note)) {
                    days = Math.max(days, abouts.get(note));
                }
            }
            return days;
        }

        void sees(int hour, int days, int last) {
            lasts.set(hour * MOST_BEHIND + days - 1, last);
        }

        private int lastBehind(int days, int hour) {
            return lasts.get(hour * MOST_BEHIND + days - 1);
        }

        private boolean fits(int note, int hour) {
            boolean atLeast = lastBehind(abouts.get(note), hour) >= lengths.get(note);
            return atLeast == (kinds.get(note) == AT_LEAST);
        }

        int fitting() {
            int hours = (1 << HOURS) - 1;
            for (int note = 0; note < byHowMany(); note++) {
                for (int hour = 0; hour < HOURS; hour++) {
                    if (tells(note) && !fits(note, hour)) {
                        hours &= ~(1 << hour);
                    }
                }
            }
            return hours;
        }

        void seekQuestion(int hours) {
            askedBehind = 1;
            leftAtWorst = worstOf(1, hours);
            for (int days = 2; days <= MOST_BEHIND; days++) {
                int worst = worstOf(days, hours);
                if (worst < leftAtWorst) {
                    askedBehind = days;
                    leftAtWorst = worst;
                }
            }
        }

        private int worstOf(int days, int hours) {
            answers.fill(0);
            int worst = 0;
            for (int hour = 0; hour < HOURS; hour++) {
                if ((hours >> hour & 1) == 1) {
                    int last = lastBehind(days, hour);
                    answers.set(last, answers.get(last) + 1);
                    worst = Math.max(worst, answers.get(last));
                }
            }
            return worst;
        }
    }

    // What can be undone: the list and who was appointed, as they were ahead of each call.
    private static final class Steps {
        private static final int CELLS = MOST_PLACES + 1;

        private final Row saved = new Row(MOST_UNDOS * CELLS);
        private int size;

        void clear() {
            size = 0;
        }

        void add(State state) {
            if (size >= MOST_UNDOS) {
                for (int i = 0; i < (MOST_UNDOS - 1) * CELLS; i++) {
                    saved.set(i, saved.get(i + CELLS));
                }
                size = MOST_UNDOS - 1;
            }
            for (int place = 0; place < MOST_PLACES; place++) {
                saved.set(size * CELLS + place, state.list.get(place));
            }
            saved.set(size * CELLS + MOST_PLACES, state.appointed);
            size++;
        }

        int takeBack(State state) {
            if (size == 0) {
                return NONE;
            }
            size--;
            for (int place = 0; place < MOST_PLACES; place++) {
                state.list.set(place, saved.get(size * CELLS + place));
            }
            state.appointed = saved.get(size * CELLS + MOST_PLACES);
            return size;
        }
    }

    // Places of the list: who would change them, and what they weigh.
    private static final class Seats {
        private final Row gets = new Row(MOST_PLACES);
        private final Row wants = new Row(MOST_PLACES);
        private final Row weights = new Row(MOST_TRADES);

        private static int apart(Told told, State state, int had, int place) {
            return Math.abs(place - told.manners.get(state.list.get(had)));
        }

        void share(Told told, State state) {
            gets.fill(NONE);
            for (int round = 0; round < state.places; round++) {
                int first = firstLeft(state.places);
                if (first == NONE) {
                    return;
                }
                wish(told, state);
                closeRing(state, first);
            }
        }

        private int firstLeft(int places) {
            for (int place = 0; place < places; place++) {
                if (gets.get(place) == NONE) {
                    return place;
                }
            }
            return NONE;
        }

        private void wish(Told told, State state) {
            for (int had = 0; had < state.places; had++) {
                int wanted = NONE;
                for (int place = 0; place < state.places; place++) {
                    boolean nearer = wanted == NONE
                        || apart(told, state, had, place) < apart(told, state, had, wanted);
                    if (nearer && gets.get(place) == NONE) {
                        wanted = place;
                    }
                }
                wants.set(had, wanted);
            }
        }

        private void closeRing(State state, int first) {
            int place = first;
            // So many steps lead into the ring from wherever one goes.
            for (int i = 0; i < state.places; i++) {
                place = wants.get(place);
            }
            for (int i = 0; i < state.places && gets.get(wants.get(place)) == NONE; i++) {
                gets.set(wants.get(place), state.list.get(place));
                place = wants.get(place);
            }
        }

        int changers(Told told, State state) {
            int pairs = 0;
            for (int one = 0; one < state.places; one++) {
                for (int other = one + 1; other < state.places; other++) {
                    boolean first = apart(told, state, one, other) < apart(told, state, one, one);
                    boolean second = apart(told, state, other, one) < apart(told, state, other, other);
                    if (first && second) {
                        pairs++;
                    }
                }
            }
            return pairs;
        }

        void weigh(Told told, State state) {
            for (int trade = 0; trade < told.trades; trade++) {
                weights.set(trade, state.placesOf(trade));
            }
        }

        private int weightOf(int trades) {
            int weight = 0;
            for (int trade = 0; trade < MOST_TRADES; trade++) {
                weight += (trades >> trade & 1) == 1 ? weights.get(trade) : 0;
            }
            return weight;
        }

        int decides(int trade, int trades, int places) {
            int found = 0;
            for (int set = 0; set < 1 << trades; set++) {
                int weight = weightOf(set);
                boolean with = (set >> trade & 1) == 1;
                if (with && 2 * weight > places && 2 * (weight - weights.get(trade)) <= places) {
                    found++;
                }
            }
            return found;
        }

        boolean canHalve(int trades) {
            int weight = weightOf(trades);
            for (int set = 0; set <= trades; set++) {
                if ((set & ~trades) == 0 && 2 * weightOf(set) == weight) {
                    return true;
                }
            }
            return false;
        }
    }

    // Who should open the days to come, so that works are done.
    private static final class Plans {
        private static final int MOST_PLAN_DAYS = 12;

        private final Row shares = new Row(MOST_TRADES);
        private final Row suits = new Row(MOST_TRADES);
        private final Row bestRow = new Row(MOST_BEST_DAYS);
        private final Row row = new Row(MOST_BEST_DAYS);
        private final State[] states = new State[MOST_BEST_DAYS + 1];
        private int days;
        private int most;
        private Told told = new Told();
        private State begun = new State();

        Plans() {
            for (int i = 0; i < states.length; i++) {
                states[i] = new State();
            }
        }

        int fewest(Told text, State now, Course course) {
            told = text;
            begun = now;
            for (int trade = 0; trade < told.trades; trade++) {
                int length = course.lengthBy(now, trade);
                int works = 0;
                for (int work = 0; work < told.works; work++) {
                    if (told.lows.get(work) <= length && told.highs.get(work) >= length) {
                        works |= 1 << work;
                    }
                }
                suits.set(trade, works);
            }
            for (int total = 0; total <= MOST_PLAN_DAYS; total++) {
                if (spreads(this, 0, total)) {
                    return total;
                }
            }
            return NO_ANSWER;
        }

        // The first trades get as many days as can be; the last one gets all that are left.
        private static boolean spreads(Plans plans, int trade, int left) {
            int trades = plans.told.trades;
            if (trade >= trades) {
                return left == 0 && plans.allDone();
            }
            int least = trade + 1 < trades ? 0 : left;
            for (int share = left; share >= least; share--) {
                plans.shares.set(trade, share);
                if (spreads(plans, trade + 1, left - share)) {
                    return true;
                }
            }
            return false;
        }

        private boolean allDone() {
            for (int work = 0; work < told.works; work++) {
                int went = begun.went.get(work);
                for (int trade = 0; trade < told.trades; trade++) {
                    went += (suits.get(trade) >> work & 1) == 1 ? shares.get(trade) : 0;
                }
                if (went < told.needs.get(work)) {
                    return false;
                }
            }
            return true;
        }

        void begin(Told text, State now, int n) {
            told = text;
            days = n;
            most = NONE;
            State first = stateBehind(0);
            if (first != null) {
                first.copy(now);
            }
        }

        private State stateBehind(int depth) {
            return depth >= 0 && depth < states.length ? states[depth] : null;
        }

        private static void seek(Plans plans, int depth, Course course) {
            State from = plans.stateBehind(depth);
            State to = plans.stateBehind(depth + 1);
            if (from == null || plans.hopes(from, plans.days - depth) <= plans.most) {
                return;
            }
            if (depth == plans.days) {
                plans.most = plans.told.works - from.left;
                plans.bestRow.copy(plans.row);
                return;
            }
            for (int trade = 0; trade < plans.told.trades && to != null; trade++) {
                plans.row.set(depth, trade);
                to.copy(from);
                to.appointed = trade;
                course.dayGoes(to);
                seek(plans, depth + 1, course);
            }
        }

        // How many works are done at most so many days on: rows that can't be better aren't tried.
        private int hopes(State state, int more) {
            int done = 0;
            for (int work = 0; work < told.works; work++) {
                int need = told.needs.get(work) - state.went.get(work);
                boolean can = told.lows.get(work) <= told.highs.get(work) && need <= more;
                done += need <= 0 || can ? 1 : 0;
            }
            return done;
        }
    }
}
