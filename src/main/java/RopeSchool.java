import java.util.Arrays;

/** A school for rope walkers; the document DOC.md says what each call of the face answers. */
public final class RopeSchool {
    public static final int NONE = -1;

    private static final int FELL = -2;
    private static final int NOT_SO = -2;
    private static final int NO_NUMBER = -100;
    private static final int MOST_BYTES = 2000;
    private static final int MOST_TOKENS = 400;
    private static final int MOST_ACTS = 6;
    private static final int MOST_GUSTS = 8;
    private static final int MOST_REFLEXES = 12;
    private static final int MOST_POLE = 4;
    private static final int FARTHEST_GUST = 12;
    private static final int MOST_BORNE = 6;
    private static final int MOST_ODDS = 12;
    private static final int MOST_DRILLS = 100;
    private static final int MOST_DRILL_BEATS = 60;
    private static final int SLOTS = 3;
    private static final int LEANS = 21;
    private static final int SWINGS = 11;
    private static final int MIDDLE_LEAN = 10;
    private static final int MIDDLE_SWING = 5;
    private static final int PER_PLACE = LEANS * SWINGS;
    private static final int STATES = 9 * PER_PLACE;

    private final int[] tape = new int[MOST_BYTES];
    private int taped;
    private int faultPlace;
    private int pole;
    private Rope rope;
    private Rope draft;
    private final Parser parser;
    private final Beats beats;
    private final Rounds rounds;
    private final Reflexes reflexes;
    private final Rows rows;
    private final Walk walk;
    /** Bit j of a STATE's element: SLOT j holds it. */
    private final int[] slots = new int[STATES];

    public RopeSchool() {
        Rope untold = new Rope();
        Rope blank = new Rope();
        Beats shared = new Beats(untold);
        faultPlace = NONE;
        pole = 1;
        rope = untold;
        draft = blank;
        parser = new Parser(blank);
        beats = shared;
        rounds = new Rounds(shared);
        reflexes = new Reflexes(shared);
        rows = new Rows(shared);
        walk = new Walk();
    }

    public int feed(int a, int b, int c, int d, int e) {
        if (taped + 20 > MOST_BYTES) {
            return NONE;
        }
        tapeWord(a);
        tapeWord(b);
        tapeWord(c);
        tapeWord(d);
        tapeWord(e);
        return taped;
    }

    private void tapeWord(int word) {
        for (int shift = 24; shift >= 0 && taped < MOST_BYTES; shift -= 8) {
            tape[taped] = word >>> shift & 255;
            taped++;
        }
    }

    public int back(int n) {
        if (n < 0 || n > taped) {
            return NONE;
        }
        taped -= n;
        return taped;
    }

    public int read() {
        int fault = parser.parse(tape, taped, draft);
        taped = 0;
        faultPlace = parser.place;
        if (fault != 0) {
            return fault;
        }
        Rope old = rope;
        rope = draft;
        draft = old;
        rows.dropForecasts();
        rounds.dropText();
        settle(1);
        return 0;
    }

    public int place() {
        return faultPlace;
    }

    public boolean pole(int p) {
        if (p < 1 || p > MOST_POLE) {
            return false;
        }
        settle(p);
        return true;
    }

    /** Whatever was found out or begun with another ROPE or POLE goes. */
    private void settle(int newPole) {
        pole = newPole;
        beats.settle(rope, newPole);
        rounds.dropPole();
        reflexes.dropLearned();
        rows.dropPlan();
        walk.leave();
    }

    public int state(int at, int lean, int swing) {
        return rope.number(at, lean, swing);
    }

    public int can(int state, int act) {
        if (!rope.has(state) || !rope.hasAct(act)) {
            return NONE;
        }
        return beats.allows(state, act) ? 1 : 0;
    }

    public int gust(int state, boolean most) {
        if (!rope.has(state)) {
            return NO_NUMBER;
        }
        return most ? beats.greatest(state) : beats.least(state);
    }

    public int next(int state, int act, int gust) {
        if (!rope.has(state) || !rope.hasAct(act) || !isForecast(gust)) {
            return NONE;
        }
        return beats.allows(state, act) ? beats.after(state, act, gust) : -3;
    }

    private static boolean isForecast(int gust) {
        return gust >= -FARTHEST_GUST && gust <= FARTHEST_GUST;
    }

    public int fate(int state) {
        if (!rope.has(state)) {
            return NONE;
        }
        rounds.findFates();
        int fate = rounds.fates[state];
        return fate == Rounds.EVER ? NOT_SO : fate;
    }

    public int keep(int state) {
        if (!rope.has(state)) {
            return NONE;
        }
        rounds.findFates();
        return rounds.keeps[state];
    }

    public int reach(int state) {
        if (!rope.has(state)) {
            return NONE;
        }
        rounds.findReaches();
        int near = rounds.nears[state];
        return near == -Rounds.EVER ? NOT_SO : -near;
    }

    public int lead(int state) {
        if (!rope.has(state)) {
            return NONE;
        }
        rounds.findReaches();
        return rounds.leads[state];
    }

    public int safe(int at) {
        if (at < 0 || at > rope.length) {
            return NONE;
        }
        rounds.findFates();
        return rounds.safeAmong(at * PER_PLACE, (at + 1) * PER_PLACE);
    }

    public int edge(int at, int swing, boolean most) {
        if (rope.number(at, 0, swing) == NONE) {
            return NO_NUMBER;
        }
        rounds.findFates();
        for (int i = -rope.wide; i <= rope.wide; i++) {
            int lean = most ? -i : i;
            if (rounds.isSafe(rope.number(at, lean, swing))) {
                return lean;
            }
        }
        return NO_NUMBER;
    }

    public int doom() {
        rounds.findFates();
        return rounds.greatestDoom();
    }

    public int borne(int state) {
        if (!rope.has(state)) {
            return NONE;
        }
        rounds.findFates();
        return rounds.bearing(state);
    }

    public int poles(int state) {
        return rope.has(state) ? rounds.leastPole(state) : NONE;
    }

    public int forecast(int gust) {
        return isForecast(gust) ? rows.addForecast(gust) : NONE;
    }

    public void clear() {
        rows.dropForecasts();
    }

    public int known(int state) {
        if (!rope.has(state)) {
            return NONE;
        }
        rows.plan(state);
        return rows.planned;
    }

    public int knownAct(int state, int i) {
        if (!rope.has(state)) {
            return NONE;
        }
        rows.plan(state);
        return rows.plannedAct(i);
    }

    public int blind(int state, int n) {
        if (!rope.has(state) || n < 1 || n > Rows.MOST_BLIND) {
            return NONE;
        }
        return rows.blindRows(state, n, false);
    }

    public int blindAct(int state, int n, int i) {
        if (!rope.has(state) || n < 1 || n > Rows.MOST_BLIND || i < 0 || i >= n) {
            return NONE;
        }
        return rows.blindRows(state, n, true) > 0 ? rows.row[i] : NONE;
    }

    public int reflex(int state) {
        return rope.has(state) ? reflexes.actIn(state) : NONE;
    }

    public int proof(int state) {
        if (!rope.has(state)) {
            return NONE;
        }
        reflexes.explore(state);
        return reflexes.beatsToFall();
    }

    public int witness(int state, int i) {
        if (!rope.has(state)) {
            return NO_NUMBER;
        }
        reflexes.explore(state);
        return reflexes.witnessGust(i);
    }

    public int arrives(int state) {
        if (!rope.has(state)) {
            return NONE;
        }
        reflexes.explore(state);
        return reflexes.longestWay(state);
    }

    public long odds(int state, int n, int what) {
        if (!rope.has(state) || n < 0 || n > MOST_ODDS || what < 0 || what > 2) {
            return NONE;
        }
        return reflexes.countRows(state, n, what);
    }

    public int learn(int state) {
        if (!rope.has(state)) {
            return NONE;
        }
        rounds.findFates();
        return reflexes.learnFrom(state, rounds);
    }

    public int learned(int i) {
        return i >= 0 && i < reflexes.learnedCount ? reflexes.learnedStates[i] : NONE;
    }

    public int forget() {
        return reflexes.dropLearned();
    }

    public boolean stand(int state) {
        if (!rope.has(state)) {
            return false;
        }
        walk.begin(state);
        return true;
    }

    public int beat(int act, int gust) throws IllegalStateException, IllegalArgumentException {
        int state = walk.standsIn();
        if (state < 0 || rope.isOver(state) || walk.count >= Walk.MOST_BEATS) {
            throw new IllegalStateException("no walk that goes on");
        }
        if (!rope.hasAct(act) || !beats.allows(state, act)) {
            throw new IllegalArgumentException("no act that can be done");
        }
        if (gust < beats.least(state) || gust > beats.greatest(state)) {
            throw new IllegalArgumentException("no gust of the state");
        }
        int to = beats.after(state, act, gust);
        walk.go(act, gust, to);
        return to;
    }

    public boolean undo() {
        return walk.goBack();
    }

    public int walked(int i, int what) {
        return walk.told(i, what);
    }

    public int blame() {
        if (walk.count < 0) {
            return NONE;
        }
        rounds.findFates();
        for (int i = 0; i < walk.count; i++) {
            int state = walk.told(i, 0);
            if (rounds.isSafe(state) && !rounds.isSafeAct(state, walk.told(i, 1))) {
                return i;
            }
        }
        return NOT_SO;
    }

    public int drill(int state, int seed, int k, int n, int what) {
        if (!rope.has(state) || k < 1 || k > MOST_DRILLS || n < 0 || n > MOST_DRILL_BEATS || what < 0 || what > 1) {
            return NONE;
        }
        int ended = 0;
        for (int i = 0; i < k; i++) {
            int end = reflexes.drillEnd(state, seed + i, n);
            if (what == 0 ? end == FELL : end >= 0 && rope.isOver(end)) {
                ended++;
            }
        }
        return ended;
    }

    public int hold(int slot) {
        if (slot < 0 || slot >= SLOTS) {
            return NONE;
        }
        rounds.findFates();
        int held = 0;
        for (int s = 0; s < STATES; s++) {
            int bit = rounds.isSafe(s) ? 1 : 0;
            slots[s] = slots[s] & ~(1 << slot) | bit << slot;
            held += bit;
        }
        return held;
    }

    public int compare(int slot, int what) {
        if (slot < 0 || slot >= SLOTS || what < 0 || what > 2) {
            return NONE;
        }
        rounds.findFates();
        int found = 0;
        for (int s = 0; s < STATES; s++) {
            boolean now = rounds.isSafe(s);
            boolean then = (slots[s] >> slot & 1) == 1;
            if (now == (what != 2) && then == (what != 1)) {
                found++;
            }
        }
        return found;
    }

    public int count(int what) {
        switch (what) {
            case 0:
                return rope.length;
            case 1:
                return rope.wide;
            case 2:
                return rope.fast;
            case 3:
                return rope.acts;
            case 4:
                return rope.gusts;
            case 5:
                return rope.reflexes;
            case 6:
                return pole;
            case 7:
                return rows.forecasts;
            case 8:
                return reflexes.learnedCount;
            case 9:
                return walk.count;
            case 10:
                return taped;
            case 11:
                return (rope.length + 1) * (2 * rope.wide + 1) * (2 * rope.fast + 1);
            case 12:
                rounds.findFates();
                return rounds.safeAmong(0, STATES);
            case 13:
                return walk.standsIn();
            default:
                return NONE;
        }
    }

    /** Cuts a tape into TOKENS: of each its kind, where it starts and its value. */
    private static final class Tokens {
        /** Each word takes WORD_ROOM letters; a word's number is its kind, and the first six are the VARS. */
        static final String WORDS =
            "at    lean  swing push  gust  pole  rope  wide  fast  act   gusts reflexif    do    or    and   not   ";
        static final int WORD_ROOM = 6;
        static final int WORD_COUNT = 17;
        static final int LEAN = 1;
        static final int SWING = 2;
        static final int VARS = 6;
        static final int ROPE = 6;
        static final int WIDE = 7;
        static final int FAST = 8;
        static final int ACT = 9;
        static final int GUSTS = 10;
        static final int REFLEX = 11;
        static final int IF = 12;
        static final int DO = 13;
        static final int OR = 14;
        static final int AND = 15;
        static final int NOT = 16;
        static final int NAME = 17;
        static final int INT = 18;
        static final int SEMICOLON = 19;
        static final int PLUS = 20;
        static final int MINUS = 21;
        static final int TIMES = 22;
        static final int DIVIDE = 23;
        static final int EQUAL = 24;
        static final int UNEQUAL = 25;
        static final int LESS = 26;
        static final int AT_MOST = 27;
        static final int OPEN = 28;
        static final int CLOSE = 29;
        static final int END = 30;
        static final int NO_TOKEN = 31;
        static final int MOST_LETTERS = 8;
        static final int MOST_DIGITS = 4;

        final int[] kinds = new int[MOST_TOKENS + 1];
        final int[] starts = new int[MOST_TOKENS + 1];
        final long[] values = new long[MOST_TOKENS + 1];
        private int[] text = new int[0];
        private int size;
        private int cursor;

        /** Goes no further than the first TOKEN too many, the end, or what is no TOKEN: no reading passes these. */
        void scan(int[] tape, int taped) {
            text = tape;
            size = taped < tape.length ? taped : tape.length;
            cursor = 0;
            boolean more = true;
            for (int n = 0; n <= MOST_TOKENS && more; n++) {
                skipBlanks();
                starts[n] = cursor;
                values[n] = 0;
                kinds[n] = token(n);
                more = kinds[n] != END && kinds[n] != NO_TOKEN;
            }
        }

        private int charAt(int place) {
            return place >= 0 && place < size ? text[place] : NONE;
        }

        private void skipBlanks() {
            for (int i = cursor; i < size && isBlank(charAt(i)); i++) {
                cursor = i + 1;
            }
        }

        private static boolean isBlank(int c) {
            return c == 32 || c == 9 || c == 10 || c == 13;
        }

        private static boolean isLetter(int c) {
            return c >= 'a' && c <= 'z';
        }

        private static boolean isDigit(int c) {
            return c >= '0' && c <= '9';
        }

        private int token(int n) {
            int c = charAt(cursor);
            if (c == NONE) {
                return END;
            }
            if (isLetter(c)) {
                return letters(n);
            }
            return isDigit(c) ? digits(n) : sign(c);
        }

        private int letters(int n) {
            int start = cursor;
            for (int i = start; i < size && isLetter(charAt(i)); i++) {
                cursor = i + 1;
            }
            int many = cursor - start;
            if (many > MOST_LETTERS) {
                return NO_TOKEN;
            }
            for (int i = start; i < cursor; i++) {
                values[n] = values[n] * 27 + charAt(i) - 'a' + 1;
            }
            for (int word = 0; word < WORD_COUNT; word++) {
                if (isWord(word, start, many)) {
                    return word;
                }
            }
            return NAME;
        }

        private boolean isWord(int word, int start, int many) {
            boolean same = many <= WORD_ROOM;
            for (int i = 0; i < WORD_ROOM && same; i++) {
                int c = i < many ? charAt(start + i) : ' ';
                int at = word * WORD_ROOM + i;
                same = at >= 0 && at < WORDS.length() && WORDS.charAt(at) == c;
            }
            return same;
        }

        private int digits(int n) {
            int start = cursor;
            for (int i = start; i < size && isDigit(charAt(i)); i++) {
                cursor = i + 1;
            }
            if (cursor - start > MOST_DIGITS) {
                return NO_TOKEN;
            }
            for (int i = start; i < cursor; i++) {
                values[n] = values[n] * 10 + charAt(i) - '0';
            }
            return INT;
        }

        private int sign(int c) {
            boolean doubled = charAt(cursor + 1) == '=';
            cursor++;
            switch (c) {
                case ';':
                    return SEMICOLON;
                case '+':
                    return PLUS;
                case '-':
                    return MINUS;
                case '*':
                    return TIMES;
                case '/':
                    return DIVIDE;
                case '(':
                    return OPEN;
                case ')':
                    return CLOSE;
                case '=':
                    return doubled ? second(EQUAL) : NO_TOKEN;
                case '!':
                    return doubled ? second(UNEQUAL) : NO_TOKEN;
                case '<':
                    return doubled ? second(AT_MOST) : LESS;
                default:
                    return NO_TOKEN;
            }
        }

        private int second(int kind) {
            cursor++;
            return kind;
        }
    }

    /** Reads a tape into a Rope, TOKEN by TOKEN; the methods that read a part answer false at a FAULT 1 or 2. */
    private static final class Parser {
        static final int SYNTAX = 1;
        static final int ROOM = 2;
        static final int TWICE = 3;
        static final int UNTOLD = 4;
        static final int WRONG = 5;
        static final int MOST_OPEN = 6;

        int place;
        private int fault;
        private int meaning;
        private int meaningPlace;
        private int index;
        private int number;
        private Rope rope;
        private int waiting;
        private final int[] operators = new int[MOST_TOKENS + 1];
        private final Tokens tokens = new Tokens();

        Parser(Rope firstDraft) {
            rope = firstDraft;
        }

        /** The number of the FAULT, or 0; place is its byte then, or NONE. */
        int parse(int[] tape, int taped, Rope draft) {
            tokens.scan(tape, taped);
            draft.untell();
            rope = draft;
            index = 0;
            fault = 0;
            place = NONE;
            meaning = 0;
            meaningPlace = NONE;
            boolean good = true;
            for (int tells = 0; tells <= MOST_TOKENS && good && kind() != Tokens.END; tells++) {
                switch (kind()) {
                    case Tokens.ROPE:
                    case Tokens.WIDE:
                    case Tokens.FAST:
                        good = tellSize(kind());
                        break;
                    case Tokens.SWING:
                    case Tokens.LEAN:
                        good = tellLaw(kind());
                        break;
                    case Tokens.ACT:
                        good = tellAct();
                        break;
                    case Tokens.GUSTS:
                        good = tellGusts();
                        break;
                    case Tokens.REFLEX:
                        good = tellReflex();
                        break;
                    default:
                        good = fail(SYNTAX);
                }
            }
            if (fault == 0 && meaning != 0) {
                fault = meaning;
                place = meaningPlace;
            }
            rope.finish();
            return fault;
        }

        private int kind() {
            return index < tokens.kinds.length ? tokens.kinds[index] : Tokens.NO_TOKEN;
        }

        private long value() {
            return index < tokens.values.length ? tokens.values[index] : 0;
        }

        private boolean fail(int which) {
            fault = which;
            place = index < tokens.starts.length ? tokens.starts[index] : NONE;
            return false;
        }

        /** FAULTS of meaning count only in a text without the others, so the reading goes on. */
        private void note(int which) {
            if (meaning == 0) {
                meaning = which;
                meaningPlace = index < tokens.starts.length ? tokens.starts[index] : NONE;
            }
        }

        /** Passes a TOKEN that fits: only here is the 401st refused, so that SYNTAX goes ahead of ROOM. */
        private boolean step() {
            if (index >= MOST_TOKENS) {
                return fail(ROOM);
            }
            index++;
            return true;
        }

        private boolean take(int kind) {
            return kind() == kind ? step() : fail(SYNTAX);
        }

        private boolean tellSize(int which) {
            if (!step()) {
                return false;
            }
            int most = which == Tokens.ROPE ? 8 : which == Tokens.WIDE ? 10 : 5;
            if (!takeInt(1, most)) {
                return false;
            }
            if (which == Tokens.ROPE) {
                rope.length = number;
            } else if (which == Tokens.WIDE) {
                rope.wide = number;
            } else {
                rope.fast = number;
            }
            return take(Tokens.SEMICOLON);
        }

        /** Leaves the INT in number. */
        private boolean takeInt(int least, int most) {
            number = (int) value();
            if (kind() == Tokens.INT && (number < least || number > most)) {
                note(WRONG);
            }
            return take(Tokens.INT);
        }

        /** Leaves the SINT in number; most is meant without the sign, least with it. */
        private boolean takeSigned(int least, int most) {
            boolean negative = kind() == Tokens.MINUS;
            if (negative && !step()) {
                return false;
            }
            int size = (int) value();
            int signed = negative ? -size : size;
            if (kind() == Tokens.INT && (size > most || signed < least)) {
                note(WRONG);
            }
            number = signed;
            return take(Tokens.INT);
        }

        private boolean tellLaw(int which) {
            if (!step()) {
                return false;
            }
            int law = rope.size;
            if (!expression()) {
                return false;
            }
            rope.emit(Reckoner.END);
            if (which == Tokens.SWING) {
                rope.swingLaw = law;
            } else {
                rope.leanLaw = law;
            }
            return take(Tokens.SEMICOLON);
        }

        private boolean tellAct() {
            if (rope.acts >= MOST_ACTS) {
                return fail(ROOM);
            }
            if (!step()) {
                return false;
            }
            long name = value();
            if (kind() == Tokens.NAME && rope.actNamed(name) != NONE) {
                note(TWICE);
            }
            if (!take(Tokens.NAME) || !takeSigned(-9, 9)) {
                return false;
            }
            int push = number;
            if (!takeSigned(-1, 1)) {
                return false;
            }
            int stride = number;
            int cond = rope.size;
            if (kind() != Tokens.IF) {
                cond = NONE;
            } else if (!step() || !condition()) {
                return false;
            }
            rope.addAct(name, push, stride, cond);
            return take(Tokens.SEMICOLON);
        }

        private boolean tellGusts() {
            if (rope.gusts >= MOST_GUSTS) {
                return fail(ROOM);
            }
            if (!step() || !takeInt(0, 8)) {
                return false;
            }
            int from = number;
            if (!takeInt(from, 8)) {
                return false;
            }
            int to = number;
            if (!takeSigned(-6, 6)) {
                return false;
            }
            int low = number;
            if (!takeSigned(low, 6)) {
                return false;
            }
            int high = number;
            int cond = rope.size;
            if (kind() != Tokens.IF) {
                cond = NONE;
            } else if (!step() || !condition()) {
                return false;
            }
            rope.addGusts(from, to, low, high, cond);
            return take(Tokens.SEMICOLON);
        }

        private boolean tellReflex() {
            if (rope.reflexes >= MOST_REFLEXES) {
                return fail(ROOM);
            }
            if (!step()) {
                return false;
            }
            int cond = rope.size;
            if (!condition() || !take(Tokens.DO)) {
                return false;
            }
            int act = rope.actNamed(value());
            if (kind() == Tokens.NAME && act == NONE) {
                note(UNTOLD);
            }
            if (!take(Tokens.NAME)) {
                return false;
            }
            rope.addReflex(cond, act);
            return take(Tokens.SEMICOLON);
        }

        private boolean condition() {
            boolean more = true;
            for (int literals = 0; literals <= MOST_TOKENS && more; literals++) {
                if (!literal()) {
                    return false;
                }
                more = kind() == Tokens.AND || kind() == Tokens.OR;
                if (kind() == Tokens.OR) {
                    rope.emit(Reckoner.OR);
                }
                if (more && !step()) {
                    return false;
                }
            }
            rope.emit(Reckoner.END);
            return true;
        }

        private boolean literal() {
            int negated = 0;
            for (int nots = 0; nots <= MOST_TOKENS && kind() == Tokens.NOT; nots++) {
                negated = 1 - negated;
                if (!step()) {
                    return false;
                }
            }
            if (!expression()) {
                return false;
            }
            int comparison = kind() - Tokens.EQUAL;
            if (comparison < 0 || comparison > 3) {
                return fail(SYNTAX);
            }
            if (!step() || !expression()) {
                return false;
            }
            rope.emit((comparison * 2 + negated) * Reckoner.ARGUMENT + Reckoner.LITERAL);
            return true;
        }

        /** Operators wait until what binds more tightly is told: so no depth of text makes depth of calls. */
        private boolean expression() {
            waiting = 0;
            int open = 0;
            boolean wantsUnit = true;
            for (int steps = 0; steps <= MOST_TOKENS; steps++) {
                int kind = kind();
                if (wantsUnit && (kind == Tokens.INT || kind < Tokens.VARS)) {
                    emitUnit(kind);
                    wantsUnit = false;
                } else if (wantsUnit && kind == Tokens.MINUS) {
                    defer(Reckoner.NEGATE);
                } else if (wantsUnit && kind == Tokens.OPEN) {
                    if (open >= MOST_OPEN) {
                        return fail(ROOM);
                    }
                    open++;
                    defer(Reckoner.BRACKET);
                } else if (wantsUnit) {
                    return fail(SYNTAX);
                } else if (kind >= Tokens.PLUS && kind <= Tokens.DIVIDE) {
                    int operator = kind - Tokens.PLUS + Reckoner.ADD;
                    unwind(operator);
                    defer(operator);
                    wantsUnit = true;
                } else if (kind == Tokens.CLOSE && open > 0) {
                    unwind(Reckoner.BRACKET);
                    waiting--;
                    open--;
                } else if (open > 0) {
                    return fail(SYNTAX);
                } else {
                    unwind(Reckoner.BRACKET);
                    return true;
                }
                if (!step()) {
                    return false;
                }
            }
            return fail(ROOM);
        }

        private void emitUnit(int kind) {
            if (kind == Tokens.INT) {
                rope.emit((int) value() * Reckoner.ARGUMENT + Reckoner.CONSTANT);
            } else {
                rope.emit(kind * Reckoner.ARGUMENT + Reckoner.VARIABLE);
            }
        }

        private void defer(int operator) {
            if (waiting < operators.length) {
                operators[waiting] = operator;
                waiting++;
            }
        }

        /** Emits what waits and binds no less tightly than the coming operator, up to an open bracket. */
        private void unwind(int coming) {
            for (int i = waiting - 1; i >= 0 && i < operators.length; i--) {
                int operator = operators[i];
                if (operator == Reckoner.BRACKET || binding(operator) < binding(coming)) {
                    return;
                }
                rope.emit(operator);
                waiting = i;
            }
        }

        private static int binding(int operator) {
            if (operator == Reckoner.NEGATE) {
                return 3;
            }
            if (operator == Reckoner.TIMES || operator == Reckoner.DIVIDE) {
                return 2;
            }
            return operator == Reckoner.BRACKET ? 0 : 1;
        }
    }

    /** What a text tells: sizes, laws, acts, gusts, reflexes; the laws and CONDS as words for the Reckoner. */
    private static final class Rope {
        static final int GUST_ROW = 5;

        int length;
        int wide;
        int fast;
        int swingLaw;
        int leanLaw;
        int acts;
        int gusts;
        int reflexes;
        int size;
        final int[] words = new int[2 * MOST_TOKENS];
        final long[] names = new long[MOST_ACTS];
        final int[] pushes = new int[MOST_ACTS];
        final int[] steps = new int[MOST_ACTS];
        final int[] actConds = new int[MOST_ACTS];
        /** Of each GUSTS: from, to, low, high, COND. */
        final int[] gustRows = new int[MOST_GUSTS * GUST_ROW];
        final int[] reflexConds = new int[MOST_REFLEXES];
        final int[] reflexActs = new int[MOST_REFLEXES];

        Rope() {
            length = 4;
            wide = 6;
            fast = 3;
            swingLaw = NONE;
            leanLaw = NONE;
            acts = 1;
            steps[0] = 1;
            actConds[0] = NONE;
        }

        void untell() {
            length = 4;
            wide = 6;
            fast = 3;
            swingLaw = NONE;
            leanLaw = NONE;
            acts = 0;
            gusts = 0;
            reflexes = 0;
            size = 0;
        }

        /** Behind the last TELL: without an ACT told there is one. */
        void finish() {
            if (acts == 0) {
                addAct(0, 0, 1, NONE);
            }
        }

        void emit(int word) {
            if (size < words.length) {
                words[size] = word;
                size++;
            }
        }

        void addAct(long name, int push, int stride, int cond) {
            if (acts < MOST_ACTS) {
                names[acts] = name;
                pushes[acts] = push;
                steps[acts] = stride;
                actConds[acts] = cond;
                acts++;
            }
        }

        void addGusts(int from, int to, int low, int high, int cond) {
            int row = gusts * GUST_ROW;
            if (row + GUST_ROW <= gustRows.length) {
                gustRows[row] = from;
                gustRows[row + 1] = to;
                gustRows[row + 2] = low;
                gustRows[row + 3] = high;
                gustRows[row + 4] = cond;
                gusts++;
            }
        }

        void addReflex(int cond, int act) {
            if (reflexes < MOST_REFLEXES) {
                reflexConds[reflexes] = cond;
                reflexActs[reflexes] = act;
                reflexes++;
            }
        }

        int actNamed(long name) {
            for (int a = 0; a < acts && a < MOST_ACTS; a++) {
                if (names[a] == name) {
                    return a;
                }
            }
            return NONE;
        }

        boolean hasAct(int act) {
            return act >= 0 && act < acts && act < MOST_ACTS;
        }

        int number(int at, int lean, int swing) {
            if (at < 0 || at > length || lean < -wide || lean > wide || swing < -fast || swing > fast) {
                return NONE;
            }
            return (at * LEANS + lean + MIDDLE_LEAN) * SWINGS + swing + MIDDLE_SWING;
        }

        boolean has(int state) {
            return state >= 0 && state < STATES && number(atOf(state), leanOf(state), swingOf(state)) == state;
        }

        boolean isOver(int state) {
            return atOf(state) == length;
        }

        static int atOf(int state) {
            return state / PER_PLACE;
        }

        static int leanOf(int state) {
            return state / SWINGS % LEANS - MIDDLE_LEAN;
        }

        static int swingOf(int state) {
            return state % SWINGS - MIDDLE_SWING;
        }
    }

    /** Reckons laws and CONDS, told as words behind one another (values first, then what is done with them). */
    private static final class Reckoner {
        static final int CONSTANT = 0;
        static final int VARIABLE = 1;
        static final int NEGATE = 2;
        static final int ADD = 3;
        static final int SUBTRACT = 4;
        static final int TIMES = 5;
        static final int DIVIDE = 6;
        static final int LITERAL = 7;
        static final int OR = 8;
        static final int END = 9;
        /** Never in a word: it waits among the operators alone. */
        static final int BRACKET = 10;
        /** A word is an argument times this, and what is to be done. */
        static final int ARGUMENT = 16;
        static final int LEAN = 1;
        static final int SWING = 2;
        static final int PUSH = 3;
        static final int GUST = 4;
        static final int POLE = 5;

        /** Six open brackets and a LIT's first side hold less than twenty values at once. */
        private final int[] stack = new int[64];
        final int[] vars = new int[8];
        boolean dividedByZero;

        void standAt(int state, int pole) {
            vars[0] = state / PER_PLACE;
            vars[LEAN] = state / SWINGS % LEANS - MIDDLE_LEAN;
            vars[SWING] = state % SWINGS - MIDDLE_SWING;
            vars[PUSH] = 0;
            vars[GUST] = 0;
            vars[POLE] = pole;
        }

        /** Without a COND (NONE) it holds. */
        boolean holds(int[] words, int cond) {
            if (cond == NONE) {
                return true;
            }
            boolean all = true;
            int at = cond;
            for (int literals = 0; literals <= words.length; literals++) {
                at = run(words, at);
                int word = at >= 0 && at < words.length ? words[at] : END;
                int what = word & ARGUMENT - 1;
                if (what == LITERAL) {
                    all = all && literal(word / ARGUMENT);
                } else if (all || what != OR) {
                    return all;
                } else {
                    all = true;
                }
                at++;
            }
            return false;
        }

        private boolean literal(int argument) {
            int left = stack[0];
            int right = stack[1];
            boolean negated = (argument & 1) == 1;
            boolean so;
            switch (argument / 2) {
                case 0:
                    so = left == right;
                    break;
                case 1:
                    so = left != right;
                    break;
                case 2:
                    so = left < right;
                    break;
                default:
                    so = left <= right;
            }
            return (so && !dividedByZero) != negated;
        }

        /** What the sum that was run last comes to. */
        int result() {
            return stack[0];
        }

        /** Reckons up to the first word that is no sum's, whose place it answers. */
        int run(int[] words, int from) {
            dividedByZero = false;
            int top = -1;
            int at = from < 0 ? 0 : from;
            for (; at < words.length; at++) {
                int what = words[at] & ARGUMENT - 1;
                if (what >= LITERAL) {
                    return at;
                }
                top += what <= VARIABLE ? 1 : what == NEGATE ? 0 : -1;
                int value = stack[top & 63];
                int right = stack[top + 1 & 63];
                if (what == CONSTANT) {
                    value = words[at] / ARGUMENT;
                } else if (what == VARIABLE) {
                    value = vars[words[at] / ARGUMENT & 7];
                } else if (what == NEGATE) {
                    value = -value;
                } else if (what == ADD) {
                    value += right;
                } else if (what == SUBTRACT) {
                    value -= right;
                } else if (what == TIMES) {
                    value *= right;
                } else if (right != 0) {
                    value /= right;
                } else {
                    dividedByZero = true;
                }
                stack[top & 63] = value;
            }
            return at;
        }
    }

    /** What CAN be done, which gusts come and where a BEAT leads, each reckoned once for a ROPE and a POLE. */
    private static final class Beats {
        static final int GUST_GROUPS = 7;
        static final int ENTRY_BITS = 12;
        static final int STAMP_SHIFT = 48;
        static final int UNKNOWN = -3;

        Rope rope;
        int pole;
        /** What is kept under another stamp was reckoned for another ROPE or POLE. */
        private int stamp;
        private final Reckoner reckoner = new Reckoner();
        private final int[] seen = new int[STATES];
        private final int[] masks = new int[STATES];
        private final int[] lows = new int[STATES];
        private final int[] highs = new int[STATES];
        private final int[] draws = new int[STATES];
        /** A stamp (16 bits) and four entries (12 bits: 0 unknown, else the STATE behind and 3 more). */
        private final long[] afters = new long[STATES * MOST_ACTS * GUST_GROUPS];

        Beats(Rope first) {
            rope = first;
            pole = 1;
            stamp = 1;
        }

        void settle(Rope newRope, int newPole) {
            rope = newRope;
            pole = newPole;
            stamp++;
        }

        boolean allows(int state, int act) {
            if (state < 0 || state >= STATES) {
                return false;
            }
            survey(state);
            return (masks[state] >> act & 1) == 1;
        }

        /** Bit a: ACT a CAN be done. */
        int mask(int state) {
            if (state < 0 || state >= STATES) {
                return 0;
            }
            survey(state);
            return masks[state];
        }

        int least(int state) {
            if (state < 0 || state >= STATES) {
                return 0;
            }
            survey(state);
            return lows[state];
        }

        int greatest(int state) {
            if (state < 0 || state >= STATES) {
                return 0;
            }
            survey(state);
            return highs[state];
        }

        private void survey(int state) {
            if (seen[state] == stamp) {
                return;
            }
            seen[state] = stamp;
            draws[state] = UNKNOWN;
            reckoner.standAt(state, pole);
            int at = Rope.atOf(state);
            lows[state] = 0;
            highs[state] = 0;
            for (int row = 0; row < rope.gusts * Rope.GUST_ROW; row += Rope.GUST_ROW) {
                int[] told = rope.gustRows;
                if (told[row] <= at && at <= told[row + 1] && reckoner.holds(rope.words, told[row + 4])) {
                    lows[state] = told[row + 2];
                    highs[state] = told[row + 3];
                }
            }
            int mask = 0;
            for (int a = 0; a < rope.acts && !rope.isOver(state); a++) {
                reckoner.vars[Reckoner.PUSH] = rope.pushes[a];
                if (reckoner.holds(rope.words, rope.actConds[a])) {
                    mask |= 1 << a;
                }
            }
            masks[state] = mask;
        }

        /** The ACT by the told reflexes, or NOT_SO. */
        int draw(int state) {
            if (state < 0 || state >= STATES) {
                return NOT_SO;
            }
            survey(state);
            if (draws[state] == UNKNOWN) {
                draws[state] = firstOf(masks[state]);
                reckoner.standAt(state, pole);
                for (int r = rope.reflexes - 1; r >= 0; r--) {
                    int act = rope.reflexActs[r];
                    if ((masks[state] >> act & 1) == 1 && reckoner.holds(rope.words, rope.reflexConds[r])) {
                        draws[state] = act;
                    }
                }
            }
            return draws[state];
        }

        /** The first ACT of a mask, or NOT_SO. */
        static int firstOf(int mask) {
            for (int act = 0; act < MOST_ACTS; act++) {
                if ((mask >> act & 1) == 1) {
                    return act;
                }
            }
            return NOT_SO;
        }

        /** The STATE behind a BEAT by an ACT, whether it CAN be done or not, or FELL. */
        int after(int state, int act, int gust) {
            int slot = gust + FARTHEST_GUST;
            int index = (state * MOST_ACTS + act) * GUST_GROUPS + (slot >> 2);
            if (index < 0 || index >= afters.length) {
                return FELL;
            }
            int shift = (slot & 3) * ENTRY_BITS;
            long group = afters[index];
            if ((int) (group >>> STAMP_SHIFT) != stamp) {
                group = (long) stamp << STAMP_SHIFT;
            }
            int entry = (int) (group >>> shift) & (1 << ENTRY_BITS) - 1;
            if (entry == 0) {
                entry = leap(state, act, gust) + 3;
                afters[index] = group | (long) entry << shift;
            }
            return entry - 3 < STATES ? entry - 3 : FELL;
        }

        private int leap(int state, int act, int gust) {
            if (!rope.hasAct(act)) {
                return FELL;
            }
            reckoner.standAt(state, pole);
            int[] vars = reckoner.vars;
            vars[Reckoner.PUSH] = rope.pushes[act];
            vars[Reckoner.GUST] = gust;
            int swing = Rope.swingOf(state) + Rope.leanOf(state) / 4 + gust - rope.pushes[act] * pole;
            if (rope.swingLaw != NONE) {
                reckoner.run(rope.words, rope.swingLaw);
                swing = reckoner.result();
                if (reckoner.dividedByZero) {
                    return FELL;
                }
            }
            vars[Reckoner.SWING] = swing;
            int lean = Rope.leanOf(state) + swing;
            if (rope.leanLaw != NONE) {
                reckoner.run(rope.words, rope.leanLaw);
                lean = reckoner.result();
                if (reckoner.dividedByZero) {
                    return FELL;
                }
            }
            int at = Rope.atOf(state) + rope.steps[act];
            int to = rope.number(at < 0 ? 0 : at, lean, swing);
            return to == NONE ? FELL : to;
        }
    }

    /** FATES, REACHES, what is BORNE and which POLES do, all found by rounds over the STATES. */
    private static final class Rounds {
        static final int EVER = 1 << 20;

        private final Beats beats;
        /** FATE (EVER: SAFE); NONE where there is no STATE. */
        final int[] fates = new int[STATES];
        final int[] keeps = new int[STATES];
        /** REACH below zero (-EVER: none), so that more is better here as with FATE. */
        final int[] nears = new int[STATES];
        final int[] leads = new int[STATES];
        private final int[] bears = new int[STATES];
        /** Bit p: SAFE with POLE p. */
        private final int[] polesSafe = new int[STATES];
        private final int[] stays = new int[STATES];
        private final int[] firsts = new int[STATES];
        private final int[] list = new int[STATES];
        private boolean fatesFound;
        private boolean reachesFound;
        private int bearsFound;
        private int polesFound;

        Rounds(Beats ofBeats) {
            beats = ofBeats;
            bearsFound = NONE;
        }

        void dropText() {
            polesFound = 0;
        }

        void dropPole() {
            fatesFound = false;
            reachesFound = false;
            bearsFound = NONE;
        }

        boolean isSafe(int state) {
            return state >= 0 && state < STATES && fates[state] == EVER;
        }

        boolean isSafeAct(int state, int act) {
            return leadsWell(fates, EVER, state, act, beats.least(state), beats.greatest(state));
        }

        int safeAmong(int from, int to) {
            int found = 0;
            for (int s = from; s < to; s++) {
                found += isSafe(s) ? 1 : 0;
            }
            return found;
        }

        int greatestDoom() {
            int doom = NONE;
            for (int s = 0; s < STATES; s++) {
                if (fates[s] != EVER && fates[s] > doom) {
                    doom = fates[s];
                }
            }
            return doom;
        }

        /** Lists the STATES that are not OVER: how many. */
        private int listOpen() {
            int open = 0;
            for (int s = 0; s < beats.rope.length * PER_PLACE && s < STATES; s++) {
                if (beats.rope.has(s)) {
                    list[open] = s;
                    open++;
                }
            }
            return open;
        }

        /** Whether an ACT leads, whatever gust of low .. high comes, to STATES with marks no less than floor. */
        private boolean leadsWell(int[] marks, int floor, int state, int act, int low, int high) {
            for (int gust = low; gust <= high; gust++) {
                int to = beats.after(state, act, gust);
                if (to < 0 || to >= marks.length || marks[to] < floor) {
                    return false;
                }
            }
            return true;
        }

        /** The first ACT from one on that CAN be done and leads well, with gusts by more beyond; else NONE. */
        private int firstGood(int[] marks, int floor, int state, int from, int more) {
            int mask = beats.mask(state);
            int low = beats.least(state) - more;
            int high = beats.greatest(state) + more;
            for (int act = from < 0 ? 0 : from; act < MOST_ACTS; act++) {
                if ((mask >> act & 1) == 1 && leadsWell(marks, floor, state, act, low, high)) {
                    return act;
                }
            }
            return NONE;
        }

        void findFates() {
            if (fatesFound) {
                return;
            }
            fatesFound = true;
            for (int s = 0; s < STATES; s++) {
                fates[s] = beats.rope.has(s) ? EVER : NONE;
                keeps[s] = NOT_SO;
            }
            int left = listOpen();
            for (int i = 0; i < left; i++) {
                keeps[list[i]] = Beats.firstOf(beats.mask(list[i]));
            }
            boolean more = true;
            for (int round = 1; round <= STATES + 1 && more; round++) {
                int before = left;
                left = fateRound(round, before);
                more = left < before;
            }
        }

        /** An ACT that failed in one round fails in all later ones, so the search goes on from the one kept. */
        private int fateRound(int round, int listed) {
            int left = 0;
            for (int i = 0; i < listed; i++) {
                int s = list[i];
                int act = firstGood(fates, round - 1, s, keeps[s], 0);
                if (act == NONE) {
                    fates[s] = round - 1;
                } else {
                    keeps[s] = act;
                    list[left] = s;
                    left++;
                }
            }
            return left;
        }

        void findReaches() {
            if (reachesFound) {
                return;
            }
            reachesFound = true;
            for (int s = 0; s < STATES; s++) {
                nears[s] = beats.rope.isOver(s) ? 0 : -EVER;
                leads[s] = NOT_SO;
            }
            int left = listOpen();
            boolean more = true;
            for (int round = 1; round <= STATES + 1 && more; round++) {
                int before = left;
                left = reachRound(round, before);
                more = left < before;
            }
        }

        private int reachRound(int round, int listed) {
            int left = 0;
            for (int i = 0; i < listed; i++) {
                int s = list[i];
                int act = firstGood(nears, 1 - round, s, 0, 0);
                if (act == NONE) {
                    list[left] = s;
                    left++;
                } else {
                    nears[s] = -round;
                    leads[s] = act;
                }
            }
            return left;
        }

        /** Of the listed STATES those stay (1) that can be kept among all that stay, with gusts by more beyond. */
        private void shrink(int listed, int more) {
            int left = listed;
            boolean again = true;
            for (int pass = 0; pass <= STATES && again; pass++) {
                int before = left;
                left = 0;
                for (int i = 0; i < before; i++) {
                    int s = list[i];
                    int act = firstGood(stays, 1, s, firsts[s], more);
                    if (act == NONE) {
                        stays[s] = 0;
                    } else {
                        firsts[s] = act;
                        list[left] = s;
                        left++;
                    }
                }
                again = left < before;
            }
        }

        /** BORNE, when FATES are found; only as many gusts more are tried as are needed for this STATE. */
        int bearing(int state) {
            if (bearsFound == NONE) {
                bearsFound = 0;
                for (int s = 0; s < STATES; s++) {
                    bears[s] = !isSafe(s) ? NOT_SO : beats.rope.isOver(s) ? MOST_BORNE : 0;
                }
            }
            for (int more = bearsFound + 1; more <= MOST_BORNE && bears[state] == more - 1; more++) {
                int listed = 0;
                for (int s = 0; s < STATES; s++) {
                    stays[s] = bears[s] >= more - 1 ? 1 : 0;
                    firsts[s] = 0;
                    if (bears[s] == more - 1) {
                        list[listed] = s;
                        listed++;
                    }
                }
                shrink(listed, more);
                for (int s = 0; s < STATES; s++) {
                    bears[s] = stays[s] == 1 && bears[s] == more - 1 ? more : bears[s];
                }
                bearsFound = more;
            }
            return bears[state];
        }

        /** POLES; the beats are lent to other POLES meanwhile. */
        int leastPole(int state) {
            int poleNow = beats.pole;
            int least = NOT_SO;
            for (int p = 1; p <= MOST_POLE && least == NOT_SO; p++) {
                if ((polesFound >> p & 1) == 0) {
                    if (beats.pole != p) {
                        beats.settle(beats.rope, p);
                    }
                    for (int s = 0; s < STATES; s++) {
                        stays[s] = beats.rope.has(s) ? 1 : 0;
                        firsts[s] = 0;
                    }
                    shrink(listOpen(), 0);
                    for (int s = 0; s < STATES; s++) {
                        polesSafe[s] = polesSafe[s] & ~(1 << p) | stays[s] << p;
                    }
                    polesFound |= 1 << p;
                }
                if ((polesSafe[state] >> p & 1) == 1) {
                    least = p;
                }
            }
            if (beats.pole != poleNow) {
                beats.settle(beats.rope, poleNow);
            }
            return least;
        }
    }

    /** Walks by REFLEXES: the nearest fall, the longest way, all rows of gusts, LEARNING, lots. */
    private static final class Reflexes {
        static final int MOST_LEARNED = 40;

        private final Beats beats;
        final int[] learnedStates = new int[MOST_LEARNED];
        int learnedCount;
        /** The ACT of a LEARNED STATE and 1 more; else 0. */
        private final int[] taught = new int[STATES];
        private int explored;
        private int lastState;
        private int lastGust;
        private int queued;
        private final int[] queue = new int[STATES];
        private final int[] depths = new int[STATES];
        private final int[] parents = new int[STATES];
        private final int[] gusts = new int[STATES];
        private final int[] longest = new int[STATES];
        private final long[] ways = new long[STATES];
        private final long[] moreWays = new long[STATES];

        Reflexes(Beats ofBeats) {
            beats = ofBeats;
            explored = NONE;
            lastState = NONE;
        }

        int dropLearned() {
            int dropped = learnedCount;
            for (int i = 0; i < learnedCount && i < MOST_LEARNED; i++) {
                taught[learnedStates[i]] = 0;
            }
            learnedCount = 0;
            explored = NONE;
            return dropped;
        }

        /** The ACT by REFLEXES, or NOT_SO. */
        int actIn(int state) {
            boolean known = state >= 0 && state < STATES && taught[state] > 0;
            return known ? taught[state] - 1 : beats.draw(state);
        }

        private int behind(int state, int act, int gust) {
            return act < 0 ? FELL : beats.after(state, act, gust);
        }

        /**
         * Goes out from a STATE, nearer STATES and lesser gusts first, up to the first fall (lastState, lastGust):
         * so the way back from it is the WITNESS. Without a fall lastState is NONE and the queue has all STATES met.
         */
        void explore(int start) {
            if (explored == start) {
                return;
            }
            explored = start;
            lastState = NONE;
            Arrays.fill(depths, NONE);
            queued = 0;
            enqueue(start, NONE, 0);
            for (int head = 0; head < queued && head < STATES && lastState == NONE; head++) {
                int s = queue[head];
                int act = actIn(s);
                int high = beats.rope.isOver(s) ? -FARTHEST_GUST - 1 : beats.greatest(s);
                for (int gust = beats.least(s); gust <= high && lastState == NONE; gust++) {
                    int to = behind(s, act, gust);
                    if (to < 0) {
                        lastState = s;
                        lastGust = gust;
                    } else if (!beats.rope.isOver(to)) {
                        enqueue(to, s, gust);
                    }
                }
            }
        }

        private void enqueue(int state, int parent, int gust) {
            if (state < 0 || state >= STATES || depths[state] != NONE || queued >= STATES) {
                return;
            }
            depths[state] = parent < 0 ? 0 : depths[parent] + 1;
            parents[state] = parent;
            gusts[state] = gust;
            queue[queued] = state;
            queued++;
        }

        int beatsToFall() {
            return lastState == NONE ? 0 : depths[lastState] + 1;
        }

        int witnessGust(int i) {
            if (i < 0 || i >= beatsToFall()) {
                return NO_NUMBER;
            }
            int gust = lastGust;
            int s = lastState;
            for (int beat = beatsToFall() - 1; beat > i && s >= 0; beat--) {
                gust = gusts[s];
                s = parents[s];
            }
            return gust;
        }

        /** ARRIVES of the STATE that was explored: the far end of the queue is done first, then what leads there. */
        int longestWay(int start) {
            if (lastState != NONE) {
                return NOT_SO;
            }
            for (int i = 0; i < queued; i++) {
                longest[queue[i]] = beats.rope.isOver(queue[i]) ? 0 : NONE;
            }
            boolean more = true;
            for (int pass = 0; pass <= STATES && more && longest[start] == NONE; pass++) {
                more = false;
                for (int i = queued - 1; i >= 0; i--) {
                    int s = queue[i];
                    if (longest[s] == NONE) {
                        longest[s] = longestFrom(s);
                        more = more || longest[s] != NONE;
                    }
                }
            }
            return longest[start] == NONE ? NOT_SO : longest[start];
        }

        /** NONE while a STATE behind is not done. */
        private int longestFrom(int state) {
            int act = actIn(state);
            int most = 0;
            for (int gust = beats.least(state); gust <= beats.greatest(state); gust++) {
                int to = behind(state, act, gust);
                int further = to < 0 ? NONE : beats.rope.isOver(to) ? 0 : longest[to];
                if (further == NONE) {
                    return NONE;
                }
                most = further > most ? further : most;
            }
            return most + 1;
        }

        /** ODDS: what 0 rows that end with a fall, 1 that end OVER, 2 all. */
        long countRows(int start, int n, int what) {
            int top = beats.rope.length * PER_PLACE;
            Arrays.fill(ways, 0);
            Arrays.fill(moreWays, 0);
            ways[start] = 1;
            long fallen = 0;
            for (int beat = 0; beat < n; beat++) {
                for (int s = 0; s < top && s < STATES; s++) {
                    if (ways[s] != 0) {
                        fallen += spread(s);
                        ways[s] = 0;
                    }
                }
                for (int s = 0; s < STATES; s++) {
                    ways[s] += moreWays[s];
                    moreWays[s] = 0;
                }
            }
            long over = 0;
            long open = 0;
            for (int s = 0; s < STATES; s++) {
                over += s >= top ? ways[s] : 0;
                open += s < top ? ways[s] : 0;
            }
            return what == 0 ? fallen : what == 1 ? over : fallen + over + open;
        }

        /** The rows that stand in a STATE go one BEAT on: how many of them fall. */
        private long spread(int state) {
            long fallen = 0;
            int act = actIn(state);
            for (int gust = beats.least(state); gust <= beats.greatest(state); gust++) {
                int to = behind(state, act, gust);
                if (to < 0) {
                    fallen += ways[state];
                } else {
                    moreWays[to] += ways[state];
                }
            }
            return fallen;
        }

        /** LEARNING, when FATES are found: how many more are LEARNED. */
        int learnFrom(int start, Rounds rounds) {
            int before = learnedCount;
            boolean more = true;
            for (int i = 0; i < MOST_LEARNED && learnedCount < MOST_LEARNED && more; i++) {
                explore(start);
                int s = lastState;
                for (int back = 0; back < STATES && s >= 0 && !(rounds.isSafe(s) && taught[s] == 0); back++) {
                    s = parents[s];
                }
                more = s >= 0;
                if (more) {
                    taught[s] = rounds.keeps[s] + 1;
                    learnedStates[learnedCount] = s;
                    learnedCount++;
                    explored = NONE;
                }
            }
            return learnedCount - before;
        }

        /** Where a DRILL ends: a STATE, or FELL. */
        int drillEnd(int start, int seed, int n) {
            int s = start;
            for (int b = 0; b < n && s >= 0 && !beats.rope.isOver(s); b++) {
                int low = beats.least(s);
                int gust = low + lot(beats.greatest(s) - low + 1, seed, b);
                s = behind(s, actIn(s), gust);
            }
            return s;
        }

        private static int lot(int n, int seed, int which) {
            int h = stir(stir(seed, 3), which) >>> 1;
            return n > 0 ? h % n : 0;
        }

        private static int stir(int h, int it) {
            int stirred = (h ^ it) * 1103515245 + 12345;
            return stirred ^ stirred >>> 15;
        }
    }

    /** Rows of ACTS chosen ahead: under FORECASTS (KNOWN), or under whatever gusts come (BLIND). */
    private static final class Rows {
        static final int MOST_FORECASTS = 24;
        static final int MOST_BLIND = 4;

        private final Beats beats;
        int forecasts;
        private final int[] ahead = new int[MOST_FORECASTS];
        /** KNOWN of the STATE plannedFrom. */
        int planned;
        private int plannedFrom;
        private final int[] plannedActs = new int[MOST_FORECASTS];
        /** Bit t: the STATE may be had after t BEATS. */
        private final int[] had = new int[STATES];
        /** Bit t: from the STATE after t BEATS one is OVER in time. */
        private final int[] good = new int[STATES];
        final int[] row = new int[MOST_BLIND];
        /** The STATES that may be, not OVER, ahead of each ACT of a BLIND row. */
        private final int[] sets = new int[(MOST_BLIND + 1) * STATES];
        private final int[] setSizes = new int[MOST_BLIND + 1];
        private final int[] met = new int[STATES];
        private int meeting;

        Rows(Beats ofBeats) {
            beats = ofBeats;
            plannedFrom = NONE;
        }

        int addForecast(int gust) {
            if (forecasts >= MOST_FORECASTS) {
                return NONE;
            }
            ahead[forecasts] = gust;
            forecasts++;
            plannedFrom = NONE;
            return forecasts;
        }

        void dropForecasts() {
            forecasts = 0;
            plannedFrom = NONE;
        }

        void dropPlan() {
            plannedFrom = NONE;
        }

        /** Finds KNOWN and its ACTS: forwards how many BEATS, backwards from which STATES, forwards again the ACTS. */
        void plan(int start) {
            if (plannedFrom == start) {
                return;
            }
            plannedFrom = start;
            planned = beats.rope.isOver(start) ? 0 : NOT_SO;
            Arrays.fill(had, 0);
            Arrays.fill(good, 0);
            had[start] = 1;
            for (int t = 0; t < forecasts && planned == NOT_SO; t++) {
                if (goForwards(t)) {
                    planned = t + 1;
                }
            }
            for (int t = planned - 1; t >= 0; t--) {
                for (int s = 0; s < STATES; s++) {
                    if ((had[s] >> t & 1) == 1 && goodAct(s, t) != NONE) {
                        good[s] |= 1 << t;
                    }
                }
            }
            int s = start;
            for (int t = 0; t < planned && t < MOST_FORECASTS && s >= 0; t++) {
                int act = goodAct(s, t);
                plannedActs[t] = act;
                s = act < 0 ? NONE : beats.after(s, act, ahead[t]);
            }
        }

        /** Whether somebody is OVER by BEAT t. */
        private boolean goForwards(int t) {
            boolean over = false;
            for (int s = 0; s < STATES; s++) {
                int mask = (had[s] >> t & 1) == 1 ? beats.mask(s) : 0;
                for (int act = 0; act < MOST_ACTS; act++) {
                    int to = (mask >> act & 1) == 1 ? beats.after(s, act, ahead[t]) : NONE;
                    if (to >= 0) {
                        had[to] |= 1 << t + 1;
                        over = over || beats.rope.isOver(to);
                    }
                }
            }
            return over;
        }

        private int goodAct(int state, int t) {
            int mask = beats.mask(state);
            for (int act = 0; act < MOST_ACTS; act++) {
                int to = (mask >> act & 1) == 1 ? beats.after(state, act, ahead[t]) : NONE;
                if (to >= 0 && (t + 1 == planned ? beats.rope.isOver(to) : (good[to] >> t + 1 & 1) == 1)) {
                    return act;
                }
            }
            return NONE;
        }

        int plannedAct(int i) {
            return i >= 0 && i < planned && i < MOST_FORECASTS ? plannedActs[i] : NONE;
        }

        /** How many BLIND rows there are; or, if one is enough, 0 or 1, and the first one is in row. */
        int blindRows(int start, int n, boolean oneIsEnough) {
            sets[0] = start;
            setSizes[0] = beats.rope.isOver(start) ? 0 : 1;
            return rowsFrom(0, n, oneIsEnough);
        }

        private int rowsFrom(int level, int n, boolean oneIsEnough) {
            if (level >= n || level >= MOST_BLIND) {
                return 1;
            }
            int found = 0;
            for (int act = 0; act < beats.rope.acts && !(oneIsEnough && found > 0); act++) {
                if (allGoOn(level, act)) {
                    row[level] = act;
                    found += rowsFrom(level + 1, n, oneIsEnough);
                }
            }
            return found;
        }

        /** Whether all that may be can do an ACT and none falls; those not OVER are the next level's set then. */
        private boolean allGoOn(int level, int act) {
            meeting++;
            setSizes[level + 1] = 0;
            for (int i = 0; i < setSizes[level]; i++) {
                int s = sets[level * STATES + i];
                if (!beats.allows(s, act)) {
                    return false;
                }
                for (int gust = beats.least(s); gust <= beats.greatest(s); gust++) {
                    int to = beats.after(s, act, gust);
                    if (to < 0) {
                        return false;
                    }
                    int size = setSizes[level + 1];
                    if (!beats.rope.isOver(to) && met[to] != meeting && size < STATES) {
                        met[to] = meeting;
                        sets[(level + 1) * STATES + size] = to;
                        setSizes[level + 1] = size + 1;
                    }
                }
            }
            return true;
        }
    }

    /** A WALK by hand: its STATES, one more than BEATS, the ACTS and the gusts. */
    private static final class Walk {
        static final int MOST_BEATS = 200;

        /** BEATS; NONE: no WALK. */
        int count;
        private final int[] states = new int[MOST_BEATS + 1];
        private final int[] acts = new int[MOST_BEATS];
        private final int[] gusts = new int[MOST_BEATS];

        Walk() {
            count = NONE;
        }

        void leave() {
            count = NONE;
        }

        void begin(int state) {
            count = 0;
            states[0] = state;
        }

        /** The STATE, FELL, or NONE without a WALK. */
        int standsIn() {
            return count >= 0 && count <= MOST_BEATS ? states[count] : NONE;
        }

        void go(int act, int gust, int to) {
            if (count >= 0 && count < MOST_BEATS) {
                acts[count] = act;
                gusts[count] = gust;
                count++;
                states[count] = to;
            }
        }

        boolean goBack() {
            if (count <= 0) {
                return false;
            }
            count--;
            return true;
        }

        int told(int i, int what) {
            if (i < 0 || i >= count || i >= MOST_BEATS) {
                return NO_NUMBER;
            }
            switch (what) {
                case 0:
                    return states[i];
                case 1:
                    return acts[i];
                case 2:
                    return gusts[i];
                case 3:
                    return states[i + 1];
                default:
                    return NO_NUMBER;
            }
        }
    }
}
