import java.util.ArrayList;
import java.util.Arrays;
import java.util.HashMap;
import java.util.HashSet;
import java.util.List;
import java.util.Map;
import java.util.Set;
import java.util.TreeSet;

/**
 * The document's definitions, each written down as plainly as can be and without any thought of speed: what the
 * class answers is compared with this. It shares no code and no way of working with the class.
 */
final class Model {
    /** The values that VARS have somewhere. */
    record Where(int at, int lean, int swing, int push, int gust, int pole) {
    }

    /** A division by 0. */
    static final class ByZero extends Exception {
        private static final long serialVersionUID = 1L;
    }

    interface Sum {
        int of(Where w) throws ByZero;
    }

    interface Cond {
        boolean of(Where w);
    }

    record Act(String name, int push, int step, Cond cond) {
    }

    record Gusts(int a, int b, int c, int d, Cond cond) {
    }

    record Reflex(Cond cond, int act) {
    }

    record Token(String text, int place, boolean real) {
    }

    /** A FAULT that ends the reading. */
    static final class Fault extends Exception {
        private static final long serialVersionUID = 1L;
        final int number;
        final int place;

        Fault(int number, int place) {
            this.number = number;
            this.place = place;
        }
    }

    static final Set<String> WORDS = Set.of("rope", "wide", "fast", "swing", "lean", "act", "if", "gusts", "reflex",
        "do", "or", "and", "not", "at", "push", "gust", "pole");

    // ---- the text ----

    /** What a text tells, or its FAULT. */
    static final class Text {
        int length = 4;
        int wide = 6;
        int fast = 3;
        Sum swingLaw = w -> w.swing + w.lean / 4 + w.gust - w.push * w.pole;
        Sum leanLaw = w -> w.lean + w.swing;
        final List<Act> acts = new ArrayList<>();
        final List<Gusts> gusts = new ArrayList<>();
        final List<Reflex> reflexes = new ArrayList<>();
        int fault;
        int place = -1;

        private final String text;
        private final List<Token> tokens = new ArrayList<>();
        private int now;
        private int brackets;
        private final List<Fault> meanings = new ArrayList<>();

        Text(String text) {
            this.text = text;
            cut();
            try {
                while (now < tokens.size()) {
                    tell();
                }
                if (!meanings.isEmpty()) {
                    throw meanings.stream().min((f, g) -> Integer.compare(f.place, g.place)).get();
                }
            } catch (Fault f) {
                fault = f.number;
                place = f.place;
            }
            if (acts.isEmpty()) {
                acts.add(new Act("", 0, 1, w -> true));
            }
        }

        private void cut() {
            String[] signs = {"==", "!=", "<=", "<", ";", "+", "-", "*", "/", "(", ")"};
            int i = 0;
            while (i < text.length()) {
                char c = text.charAt(i);
                if (" \t\n\r".indexOf(c) >= 0) {
                    i++;
                    continue;
                }
                int end = i;
                while (end < text.length() && Character.toString(text.charAt(end)).matches("[a-z]")) {
                    end++;
                }
                boolean real = end - i <= 8;
                if (end == i) {
                    while (end < text.length() && Character.toString(text.charAt(end)).matches("[0-9]")) {
                        end++;
                    }
                    real = end - i <= 4;
                }
                if (end == i) {
                    real = false;
                    end = i + 1;
                    for (String sign : signs) {
                        if (!real && text.startsWith(sign, i)) {
                            real = true;
                            end = i + sign.length();
                        }
                    }
                }
                tokens.add(new Token(text.substring(i, end), i, real));
                i = end;
            }
        }

        private String sees() {
            return now < tokens.size() && tokens.get(now).real ? tokens.get(now).text : "";
        }

        private int at() {
            return now < tokens.size() ? tokens.get(now).place : text.length();
        }

        private Fault syntax() {
            return new Fault(1, at());
        }

        private String pass() throws Fault {
            if (now == 400) {
                throw new Fault(2, at());
            }
            String seen = sees();
            now++;
            return seen;
        }

        private void want(String sign) throws Fault {
            if (!sees().equals(sign)) {
                throw syntax();
            }
            pass();
        }

        private int wantInt() throws Fault {
            if (!sees().matches("[0-9]+")) {
                throw syntax();
            }
            return Integer.parseInt(pass());
        }

        private String wantName() throws Fault {
            if (!sees().matches("[a-z]+") || WORDS.contains(sees())) {
                throw syntax();
            }
            return pass();
        }

        private int wantSigned(int most) throws Fault {
            int sign = 1;
            if (sees().equals("-")) {
                pass();
                sign = -1;
            }
            int place = at();
            int size = wantInt();
            wrong(size > most, place);
            return sign * size;
        }

        private void wrong(boolean so, int place) {
            if (so) {
                meanings.add(new Fault(5, place));
            }
        }

        private int named(String name) {
            for (int i = 0; i < acts.size(); i++) {
                if (acts.get(i).name.equals(name)) {
                    return i;
                }
            }
            return -1;
        }

        private void full(boolean so) throws Fault {
            if (so) {
                throw new Fault(2, at());
            }
        }

        private void tell() throws Fault {
            switch (sees()) {
                case "rope" -> length = size(8);
                case "wide" -> wide = size(10);
                case "fast" -> fast = size(5);
                case "swing" -> {
                    pass();
                    swingLaw = sum();
                }
                case "lean" -> {
                    pass();
                    leanLaw = sum();
                }
                case "act" -> act();
                case "gusts" -> gusts();
                case "reflex" -> reflex();
                default -> throw syntax();
            }
            want(";");
        }

        private int size(int most) throws Fault {
            pass();
            int place = at();
            int size = wantInt();
            wrong(size == 0 || size > most, place);
            return size;
        }

        private void act() throws Fault {
            full(acts.size() == 6);
            pass();
            int place = at();
            String name = wantName();
            if (named(name) >= 0) {
                meanings.add(new Fault(3, place));
            }
            int push = wantSigned(9);
            int step = wantSigned(1);
            acts.add(new Act(name, push, step, maybeCond()));
        }

        private Cond maybeCond() throws Fault {
            if (!sees().equals("if")) {
                return w -> true;
            }
            pass();
            return cond();
        }

        private void gusts() throws Fault {
            full(gusts.size() == 8);
            pass();
            int place = at();
            int a = wantInt();
            wrong(a > 8, place);
            place = at();
            int b = wantInt();
            wrong(b > 8 || b < a, place);
            int c = wantSigned(6);
            int d = wantSigned(6);
            wrong(d < c, tokens.get(now - 1).place);
            gusts.add(new Gusts(a, b, c, d, maybeCond()));
        }

        private void reflex() throws Fault {
            full(reflexes.size() == 12);
            pass();
            Cond cond = cond();
            want("do");
            int place = at();
            String name = wantName();
            if (named(name) < 0) {
                meanings.add(new Fault(4, place));
            }
            reflexes.add(new Reflex(cond, named(name)));
        }

        private Cond cond() throws Fault {
            Cond first = all();
            while (sees().equals("or")) {
                pass();
                Cond left = first;
                Cond right = all();
                first = w -> left.of(w) || right.of(w);
            }
            return first;
        }

        private Cond all() throws Fault {
            Cond first = lit();
            while (sees().equals("and")) {
                pass();
                Cond left = first;
                Cond right = lit();
                first = w -> left.of(w) && right.of(w);
            }
            return first;
        }

        private Cond lit() throws Fault {
            if (sees().equals("not")) {
                pass();
                Cond of = lit();
                return w -> !of.of(w);
            }
            Sum left = sum();
            String how = sees();
            if (!Set.of("==", "!=", "<", "<=").contains(how)) {
                throw syntax();
            }
            pass();
            Sum right = sum();
            return w -> {
                try {
                    int l = left.of(w);
                    int r = right.of(w);
                    return switch (how) {
                        case "==" -> l == r;
                        case "!=" -> l != r;
                        case "<" -> l < r;
                        default -> l <= r;
                    };
                } catch (ByZero e) {
                    return false;
                }
            };
        }

        private Sum sum() throws Fault {
            Sum first = part();
            while (sees().equals("+") || sees().equals("-")) {
                boolean plus = pass().equals("+");
                Sum left = first;
                Sum right = part();
                first = w -> plus ? left.of(w) + right.of(w) : left.of(w) - right.of(w);
            }
            return first;
        }

        private Sum part() throws Fault {
            Sum first = unit();
            while (sees().equals("*") || sees().equals("/")) {
                boolean times = pass().equals("*");
                Sum left = first;
                Sum right = unit();
                first = w -> {
                    int l = left.of(w);
                    int r = right.of(w);
                    if (!times && r == 0) {
                        throw new ByZero();
                    }
                    return times ? l * r : l / r;
                };
            }
            return first;
        }

        private Sum unit() throws Fault {
            String seen = sees();
            if (seen.equals("-")) {
                pass();
                Sum of = unit();
                return w -> -of.of(w);
            }
            if (seen.equals("(")) {
                full(brackets == 6);
                pass();
                brackets++;
                Sum of = sum();
                want(")");
                brackets--;
                return of;
            }
            if (seen.matches("[0-9]+")) {
                int value = Integer.parseInt(pass());
                return w -> value;
            }
            Sum of = switch (seen) {
                case "at" -> w -> w.at;
                case "lean" -> w -> w.lean;
                case "swing" -> w -> w.swing;
                case "push" -> w -> w.push;
                case "gust" -> w -> w.gust;
                case "pole" -> w -> w.pole;
                default -> throw syntax();
            };
            pass();
            return of;
        }
    }

    // ---- the state of the object ----

    Text text = new Text("");
    int pole = 1;
    int latestPlace = -1;
    final List<Integer> forecasts = new ArrayList<>();
    final Map<Integer, Integer> learnedActs = new HashMap<>();
    final List<Integer> learned = new ArrayList<>();
    List<int[]> walk;
    int walkStart;
    final List<Set<Integer>> slots = new ArrayList<>(List.of(Set.of(), Set.of(), Set.of()));

    // ---- what is kept, as it does not change between changes ----
    private Map<Integer, Integer> fates;
    private Map<Integer, Integer> reaches;
    private final Map<Integer, Set<Integer>> borneSets = new HashMap<>();
    private final Map<Integer, Set<Integer>> poleSets = new HashMap<>();
    private final Map<Integer, Integer> steps = new HashMap<>();
    private final Map<Integer, int[]> gustsOf = new HashMap<>();
    private final Map<Integer, Boolean> cans = new HashMap<>();

    static final int EVER = 1_000_000;

    int read(String tape) {
        Text next = new Text(tape);
        latestPlace = next.place;
        if (next.fault == 0) {
            text = next;
            pole = 1;
            forecasts.clear();
            poleSets.clear();
            change();
        }
        return next.fault;
    }

    boolean pole(int p) {
        if (p < 1 || p > 4) {
            return false;
        }
        pole = p;
        change();
        return true;
    }

    private void change() {
        forget();
        walk = null;
        fates = null;
        reaches = null;
        borneSets.clear();
        steps.clear();
        gustsOf.clear();
        cans.clear();
    }

    // ---- STATES ----

    static int at(int s) {
        return s / 11 / 21;
    }

    static int lean(int s) {
        return s / 11 % 21 - 10;
    }

    static int swing(int s) {
        return s % 11 - 5;
    }

    int state(int at, int lean, int swing) {
        boolean is = at >= 0 && at <= text.length && lean >= -text.wide && lean <= text.wide && swing >= -text.fast
            && swing <= text.fast;
        return is ? (at * 21 + lean + 10) * 11 + swing + 5 : -1;
    }

    boolean is(int s) {
        return s >= 0 && s < 2079 && state(at(s), lean(s), swing(s)) == s;
    }

    boolean over(int s) {
        return at(s) == text.length;
    }

    List<Integer> states() {
        List<Integer> all = new ArrayList<>();
        for (int s = 0; s < 2079; s++) {
            if (is(s)) {
                all.add(s);
            }
        }
        return all;
    }

    boolean isAct(int a) {
        return a >= 0 && a < text.acts.size();
    }

    boolean canDo(int s, int a) {
        return cans.computeIfAbsent((s * 10 + a) * 5 + pole, k -> {
            Act act = text.acts.get(a);
            return !over(s) && act.cond.of(new Where(at(s), lean(s), swing(s), act.push, 0, pole));
        });
    }

    int[] gusts(int s) {
        return gustsOf.computeIfAbsent(s * 5 + pole, k -> {
            int[] of = {0, 0};
            for (Gusts g : text.gusts) {
                if (at(s) >= g.a && at(s) <= g.b && g.cond.of(new Where(at(s), lean(s), swing(s), 0, 0, pole))) {
                    of = new int[] {g.c, g.d};
                }
            }
            return of;
        });
    }

    /** -2: FALLS. */
    int go(int s, int a, int gust) {
        return steps.computeIfAbsent(((s * 10 + a) * 40 + gust + 15) * 5 + pole, k -> {
            Act act = text.acts.get(a);
            try {
                int swing = text.swingLaw.of(new Where(at(s), lean(s), swing(s), act.push, gust, pole));
                int lean = text.leanLaw.of(new Where(at(s), lean(s), swing, act.push, gust, pole));
                int place = Math.max(0, Math.min(text.length, at(s) + act.step));
                int to = state(place, lean, swing);
                return to == -1 ? -2 : to;
            } catch (ByZero e) {
                return -2;
            }
        });
    }

    int can(int s, int a) {
        return !is(s) || !isAct(a) ? -1 : canDo(s, a) ? 1 : 0;
    }

    int gust(int s, boolean most) {
        return is(s) ? gusts(s)[most ? 1 : 0] : -100;
    }

    int next(int s, int a, int gust) {
        return !is(s) || !isAct(a) || gust < -12 || gust > 12 ? -1 : canDo(s, a) ? go(s, a, gust) : -3;
    }

    // ---- FATE ----

    /** Whether an ACT can be done and leads, whatever gust comes, to STATES of a set. */
    private boolean leadsInto(int s, int a, Set<Integer> set, int k) {
        if (!canDo(s, a)) {
            return false;
        }
        for (int g = gusts(s)[0] - k; g <= gusts(s)[1] + k; g++) {
            if (!set.contains(go(s, a, g))) {
                return false;
            }
        }
        return true;
    }

    private boolean someActLeadsInto(int s, Set<Integer> set, int k) {
        for (int a = 0; a < text.acts.size(); a++) {
            if (leadsInto(s, a, set, k)) {
                return true;
            }
        }
        return false;
    }

    private Map<Integer, Integer> fatesWith(int k) {
        Map<Integer, Integer> found = new HashMap<>();
        Set<Integer> standing = new HashSet<>(states());
        for (int n = 1;; n++) {
            Set<Integer> more = new HashSet<>();
            for (int s : states()) {
                if (over(s) || someActLeadsInto(s, standing, k)) {
                    more.add(s);
                }
            }
            for (int s : standing) {
                if (!more.contains(s)) {
                    found.put(s, n - 1);
                }
            }
            if (more.equals(standing)) {
                for (int s : standing) {
                    found.put(s, EVER);
                }
                return found;
            }
            standing = more;
        }
    }

    private Map<Integer, Integer> fates() {
        if (fates == null) {
            fates = fatesWith(0);
        }
        return fates;
    }

    Set<Integer> safes() {
        return atLeast(fates(), EVER);
    }

    private static Set<Integer> atLeast(Map<Integer, Integer> of, int least) {
        Set<Integer> set = new HashSet<>();
        of.forEach((s, n) -> {
            if (n >= least) {
                set.add(s);
            }
        });
        return set;
    }

    int fate(int s) {
        return !is(s) ? -1 : fates().get(s) == EVER ? -2 : fates().get(s);
    }

    int keep(int s) {
        if (!is(s)) {
            return -1;
        }
        int fate = fates().get(s);
        for (int a = 0; a < text.acts.size(); a++) {
            boolean keeps = fate == 0 ? canDo(s, a) : leadsInto(s, a, atLeast(fates(), fate == EVER ? EVER : fate - 1), 0);
            if (keeps) {
                return a;
            }
        }
        return -2;
    }

    private Map<Integer, Integer> reaches() {
        if (reaches == null) {
            reaches = new HashMap<>();
            Set<Integer> there = new HashSet<>();
            for (int s : states()) {
                if (over(s)) {
                    there.add(s);
                    reaches.put(s, 0);
                }
            }
            boolean more = true;
            for (int n = 1; more; n++) {
                Set<Integer> now = new HashSet<>(there);
                for (int s : states()) {
                    if (!there.contains(s) && someActLeadsInto(s, there, 0)) {
                        now.add(s);
                        reaches.put(s, n);
                    }
                }
                more = now.size() > there.size();
                there = now;
            }
        }
        return reaches;
    }

    int reach(int s) {
        return !is(s) ? -1 : reaches().getOrDefault(s, -2);
    }

    int lead(int s) {
        if (!is(s)) {
            return -1;
        }
        if (over(s) || reach(s) == -2) {
            return -2;
        }
        Set<Integer> less = new HashSet<>();
        reaches().forEach((t, n) -> {
            if (n < reach(s)) {
                less.add(t);
            }
        });
        for (int a = 0; a < text.acts.size(); a++) {
            if (leadsInto(s, a, less, 0)) {
                return a;
            }
        }
        return -99;
    }

    int safe(int at) {
        return at < 0 || at > text.length ? -1 : (int) safes().stream().filter(s -> at(s) == at).count();
    }

    int edge(int at, int swing, boolean most) {
        List<Integer> leans = new ArrayList<>();
        for (int s : safes()) {
            if (at(s) == at && swing(s) == swing) {
                leans.add(lean(s));
            }
        }
        if (leans.isEmpty()) {
            return -100;
        }
        return most ? leans.stream().max(Integer::compare).get() : leans.stream().min(Integer::compare).get();
    }

    int doom() {
        return fates().values().stream().filter(n -> n < EVER).max(Integer::compare).orElse(-1);
    }

    int borne(int s) {
        if (!is(s)) {
            return -1;
        }
        int borne = -2;
        for (int k = 0; k <= 6; k++) {
            Set<Integer> set = borneSets.computeIfAbsent(k, j -> atLeast(fatesWith(j), EVER));
            if (set.contains(s)) {
                borne = k;
            }
        }
        return borne;
    }

    int poles(int s) {
        if (!is(s)) {
            return -1;
        }
        int now = pole;
        int least = -2;
        for (int p = 4; p >= 1; p--) {
            pole = p;
            if (!poleSets.containsKey(p)) {
                poleSets.put(p, atLeast(fatesWith(0), EVER));
            }
            if (poleSets.get(p).contains(s)) {
                least = p;
            }
        }
        pole = now;
        return least;
    }

    // ---- FORECASTS, BLIND ----

    int forecast(int gust) {
        if (forecasts.size() == 24 || gust < -12 || gust > 12) {
            return -1;
        }
        forecasts.add(gust);
        return forecasts.size();
    }

    /** The least row of ACTS with n BEATS from the t-th on by which the walker is OVER at their end; or null. */
    private List<Integer> rowTo(int s, int t, int n, Map<Integer, List<Integer>> memo) {
        if (n == 0) {
            return over(s) ? List.of() : null;
        }
        int key = s * 30 + t;
        if (memo.containsKey(key)) {
            return memo.get(key);
        }
        List<Integer> row = null;
        for (int a = 0; a < text.acts.size() && row == null; a++) {
            int to = canDo(s, a) ? go(s, a, forecasts.get(t)) : -2;
            List<Integer> rest = to < 0 ? null : rowTo(to, t + 1, n - 1, memo);
            if (rest != null) {
                row = new ArrayList<>(List.of(a));
                row.addAll(rest);
            }
        }
        memo.put(key, row);
        return row;
    }

    private List<Integer> knownRow(int s) {
        for (int n = 0; n <= forecasts.size(); n++) {
            List<Integer> row = rowTo(s, 0, n, new HashMap<>());
            if (row != null) {
                return row;
            }
        }
        return null;
    }

    int known(int s) {
        if (!is(s)) {
            return -1;
        }
        List<Integer> row = knownRow(s);
        return row == null ? -2 : row.size();
    }

    int knownAct(int s, int i) {
        List<Integer> row = is(s) ? knownRow(s) : null;
        return row == null || i < 0 || i >= row.size() ? -1 : row.get(i);
    }

    /** Whether a row of ACTS does, whatever gusts come. */
    private boolean does(Set<Integer> maybe, int[] row, int from) {
        if (from == row.length) {
            return true;
        }
        Set<Integer> then = new TreeSet<>();
        for (int s : maybe) {
            if (over(s)) {
                continue;
            }
            if (!canDo(s, row[from])) {
                return false;
            }
            for (int g = gusts(s)[0]; g <= gusts(s)[1]; g++) {
                then.add(go(s, row[from], g));
            }
        }
        return !then.contains(-2) && does(then, row, from + 1);
    }

    private List<int[]> blindRows(int s, int n) {
        List<int[]> rows = new ArrayList<>();
        int m = text.acts.size();
        int all = 1;
        for (int i = 0; i < n; i++) {
            all *= m;
        }
        for (int number = 0; number < all; number++) {
            int[] row = new int[n];
            int rest = number;
            for (int i = n - 1; i >= 0; i--) {
                row[i] = rest % m;
                rest /= m;
            }
            if (does(Set.of(s), row, 0)) {
                rows.add(row);
            }
        }
        return rows;
    }

    int blind(int s, int n) {
        return !is(s) || n < 1 || n > 4 ? -1 : blindRows(s, n).size();
    }

    int blindAct(int s, int n, int i) {
        if (!is(s) || n < 1 || n > 4 || i < 0 || i >= n) {
            return -1;
        }
        List<int[]> rows = blindRows(s, n);
        return rows.isEmpty() ? -1 : rows.get(0)[i];
    }

    // ---- REFLEXES ----

    int reflexAct(int s) {
        if (learnedActs.containsKey(s)) {
            return learnedActs.get(s);
        }
        for (Reflex r : text.reflexes) {
            if (canDo(s, r.act) && r.cond.of(new Where(at(s), lean(s), swing(s), 0, 0, pole))) {
                return r.act;
            }
        }
        for (int a = 0; a < text.acts.size(); a++) {
            if (canDo(s, a)) {
                return a;
            }
        }
        return -2;
    }

    int reflex(int s) {
        return is(s) ? reflexAct(s) : -1;
    }

    private int byReflex(int s, int gust) {
        int a = reflexAct(s);
        return a < 0 ? -2 : go(s, a, gust);
    }

    /** All STATES from which one can fall in n BEATS, for n from 0 (none) on, as long as there are more. */
    private List<Set<Integer>> fallSets() {
        List<Set<Integer>> sets = new ArrayList<>();
        sets.add(new HashSet<>());
        boolean more = true;
        while (more) {
            Set<Integer> last = sets.get(sets.size() - 1);
            Set<Integer> now = new HashSet<>();
            for (int s : states()) {
                for (int g = gusts(s)[0]; g <= gusts(s)[1] && !over(s); g++) {
                    int to = byReflex(s, g);
                    if (to == -2 || last.contains(to)) {
                        now.add(s);
                    }
                }
            }
            more = !now.equals(last);
            if (more) {
                sets.add(now);
            }
        }
        return sets;
    }

    List<Integer> witnessRow(int start) {
        List<Set<Integer>> sets = fallSets();
        List<Integer> row = new ArrayList<>();
        int n = 0;
        while (n < sets.size() && !sets.get(n).contains(start)) {
            n++;
        }
        if (n == sets.size()) {
            return row;
        }
        int s = start;
        for (int left = n - 1; left >= 0; left--) {
            for (int g = gusts(s)[0];; g++) {
                int to = byReflex(s, g);
                if (left == 0 ? to == -2 : to != -2 && sets.get(left).contains(to)) {
                    row.add(g);
                    s = to;
                    break;
                }
            }
        }
        return row;
    }

    int proof(int s) {
        return is(s) ? witnessRow(s).size() : -1;
    }

    int witness(int s, int i) {
        List<Integer> row = is(s) ? witnessRow(s) : List.of();
        return i < 0 || i >= row.size() ? -100 : row.get(i);
    }

    int arrives(int s) {
        return is(s) ? longest(s, new HashSet<>(), new HashMap<>()) : -1;
    }

    private int longest(int s, Set<Integer> open, Map<Integer, Integer> memo) {
        if (over(s)) {
            return 0;
        }
        if (memo.containsKey(s)) {
            return memo.get(s);
        }
        if (!open.add(s)) {
            return -2;
        }
        int most = 0;
        for (int g = gusts(s)[0]; g <= gusts(s)[1] && most >= 0; g++) {
            int to = byReflex(s, g);
            int from = to < 0 ? -2 : longest(to, open, memo);
            most = from < 0 ? -2 : Math.max(most, from + 1);
        }
        open.remove(s);
        memo.put(s, most);
        return most;
    }

    long odds(int s, int n, int what) {
        if (!is(s) || n < 0 || n > 12 || what < 0 || what > 2) {
            return -1;
        }
        return rows(s, n, new HashMap<>())[what];
    }

    private long[] rows(int s, int n, Map<Integer, long[]> memo) {
        if (over(s)) {
            return new long[] {0, 1, 1};
        }
        if (n == 0) {
            return new long[] {0, 0, 1};
        }
        if (memo.containsKey(s * 13 + n)) {
            return memo.get(s * 13 + n);
        }
        long[] sum = new long[3];
        for (int g = gusts(s)[0]; g <= gusts(s)[1]; g++) {
            int to = byReflex(s, g);
            long[] of = to < 0 ? new long[] {1, 0, 1} : rows(to, n - 1, memo);
            for (int i = 0; i < 3; i++) {
                sum[i] += of[i];
            }
        }
        memo.put(s * 13 + n, sum);
        return sum;
    }

    int learn(int start) {
        if (!is(start)) {
            return -1;
        }
        int before = learned.size();
        while (learned.size() < 40) {
            List<Integer> row = witnessRow(start);
            int last = -1;
            int s = start;
            for (int g : row) {
                if (safes().contains(s) && !learnedActs.containsKey(s)) {
                    last = s;
                }
                s = byReflex(s, g);
            }
            if (row.isEmpty() || last < 0) {
                break;
            }
            learned.add(last);
            learnedActs.put(last, keep(last));
        }
        return learned.size() - before;
    }

    int learned(int i) {
        return i < 0 || i >= learned.size() ? -1 : learned.get(i);
    }

    int forget() {
        int many = learned.size();
        learned.clear();
        learnedActs.clear();
        return many;
    }

    // ---- WALKS ----

    boolean stand(int s) {
        if (is(s)) {
            walk = new ArrayList<>();
            walkStart = s;
        }
        return is(s);
    }

    int stands() {
        return walk == null ? -1 : walk.isEmpty() ? walkStart : walk.get(walk.size() - 1)[3];
    }

    /** -1000, -2000: the exceptions. */
    int beat(int a, int gust) {
        int s = stands();
        if (s < 0 || over(s) || walk.size() == 200) {
            return -1000;
        }
        if (!isAct(a) || !canDo(s, a) || gust < gusts(s)[0] || gust > gusts(s)[1]) {
            return -2000;
        }
        walk.add(new int[] {s, a, gust, go(s, a, gust)});
        return stands();
    }

    boolean undo() {
        if (walk == null || walk.isEmpty()) {
            return false;
        }
        walk.remove(walk.size() - 1);
        return true;
    }

    int walked(int i, int what) {
        return walk == null || i < 0 || i >= walk.size() || what < 0 || what > 3 ? -100 : walk.get(i)[what];
    }

    int blame() {
        if (walk == null) {
            return -1;
        }
        for (int i = 0; i < walk.size(); i++) {
            int[] b = walk.get(i);
            if (safes().contains(b[0]) && !leadsInto(b[0], b[1], safes(), 0)) {
                return i;
            }
        }
        return -2;
    }

    private static int lot(int n, int seed, int which) {
        int h = seed;
        for (int it : new int[] {3, which}) {
            h = (h ^ it) * 1103515245 + 12345;
            h = h ^ (h >>> 15);
        }
        return (h >>> 1) % n;
    }

    int drill(int start, int seed, int k, int n, int what) {
        if (!is(start) || k < 1 || k > 100 || n < 0 || n > 60 || what < 0 || what > 1) {
            return -1;
        }
        int[] ends = new int[2];
        for (int d = 0; d < k; d++) {
            int s = start;
            for (int b = 0; b < n && s >= 0 && !over(s); b++) {
                int m = gusts(s)[1] - gusts(s)[0] + 1;
                s = byReflex(s, gusts(s)[0] + lot(m, seed + d, b));
            }
            if (s < 0) {
                ends[0]++;
            } else if (over(s)) {
                ends[1]++;
            }
        }
        return ends[what];
    }

    int hold(int slot) {
        if (slot < 0 || slot > 2) {
            return -1;
        }
        slots.set(slot, safes());
        return safes().size();
    }

    int compare(int slot, int what) {
        if (slot < 0 || slot > 2 || what < 0 || what > 2) {
            return -1;
        }
        Set<Integer> now = new HashSet<>(safes());
        Set<Integer> then = new HashSet<>(slots.get(slot));
        if (what == 0) {
            now.retainAll(then);
            return now.size();
        }
        if (what == 1) {
            now.removeAll(then);
            return now.size();
        }
        then.removeAll(now);
        return then.size();
    }

    int count(int what, int taped) {
        List<Integer> counts = Arrays.asList(text.length, text.wide, text.fast, text.acts.size(), text.gusts.size(),
            text.reflexes.size(), pole, forecasts.size(), learned.size(), walk == null ? -1 : walk.size(), taped,
            states().size());
        if (what >= 0 && what < counts.size()) {
            return counts.get(what);
        }
        return what == 12 ? safes().size() : what == 13 ? stands() : -1;
    }
}
