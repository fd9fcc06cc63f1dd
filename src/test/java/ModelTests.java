import java.util.ArrayList;
import java.util.List;
import java.util.Random;

/** All promises: many texts and calls by lots, each answer compared with the Model's. */
public final class ModelTests {
    private static final Due DUE = new Due();
    private static Random lots = new Random(1);

    private static int lot(int n) {
        return lots.nextInt(n);
    }

    private static boolean chance(int percent) {
        return lot(100) < percent;
    }

    private static String pick(String... of) {
        return of[lot(of.length)];
    }

    // ---- texts by lot ----

    private static String sum(int depth) {
        int what = lot(depth > 3 ? 4 : 10);
        if (what < 2) {
            return String.valueOf(lot(4));
        }
        if (what < 4) {
            return pick("at", "lean", "swing", "push", "gust", "pole", "lean", "swing");
        }
        if (what == 4) {
            return "(" + sum(depth + 1) + ")";
        }
        if (what == 5) {
            return "-" + sum(depth + 1);
        }
        return sum(depth + 1) + pick("+", "-", "*", "/", "+", "-") + sum(depth + 1);
    }

    private static String lit() {
        if (chance(20)) {
            return "not " + lit();
        }
        if (chance(60)) {
            String var = pick("at", "lean", "swing", "lean", "swing", "pole", "push");
            String value = (chance(40) ? "-" : "") + lot(4);
            return chance(50) ? var + pick("<", "<=", "==", "!=") + value : value + pick("<", "<=", "!=") + var;
        }
        return sum(1) + pick("<", "<=", "==", "!=") + sum(1);
    }

    private static String cond() {
        StringBuilder text = new StringBuilder(lit());
        while (chance(35)) {
            text.append(pick(" and ", " or ")).append(lit());
        }
        return text.toString();
    }

    private static String maybeCond(int percent) {
        return chance(percent) ? " if " + cond() : "";
    }

    private static String signed(int most) {
        return (chance(50) ? "-" : "") + lot(most + 1);
    }

    private static String law(boolean swing) {
        if (chance(60)) {
            return swing
                ? pick("swing+lean/3+gust-push*pole", "swing+lean/4+gust-push", "(swing+gust-push*pole)/2+lean/5",
                    "swing-push+gust/pole", "swing+lean/2-push*pole+gust", "swing*lean/at+gust-push", "-5+gust-push")
                : pick("lean+swing", "lean+swing/2", "lean-swing", "lean/2+swing", "lean+swing+at-at", "lean+swing/pole",
                    "lean*2+swing", "-10+gust");
        }
        return sum(0);
    }

    private static String text() {
        StringBuilder text = new StringBuilder();
        if (chance(8)) {
            text.append("rope 4;".repeat(100 + lot(34))).append("lean lean+swing;".repeat(lot(2)));
        }
        boolean corners = chance(10);
        if (chance(90) || corners) {
            text.append("rope ").append(1 + lot(corners ? 2 : chance(20) ? 8 : 4)).append("; ");
        }
        if (chance(90) || corners) {
            text.append("wide ").append(corners ? 10 : 1 + lot(chance(20) ? 10 : 5)).append("; ");
        }
        if (chance(90) || corners) {
            text.append("fast ").append(corners ? 5 : 1 + lot(chance(20) ? 5 : 4)).append("; ");
        }
        int acts = lot(7);
        for (int i = 0; i < acts; i++) {
            String push = i == 0 ? "1" : i == 1 ? "-1" : signed(3);
            text.append("act ").append((char) ('a' + i)).append(' ').append(push).append(' ')
                .append(chance(50) ? "1" : signed(1)).append(maybeCond(25)).append("; ");
        }
        for (int i = lot(4); i > 0; i--) {
            int a = lot(5);
            int c = lot(4) - 2;
            text.append("gusts ").append(a).append(' ').append(a + lot(9 - a)).append(' ').append(c).append(' ')
                .append(c + lot(chance(20) ? 5 : 2)).append(maybeCond(40)).append("; ");
        }
        for (int i = acts == 0 ? 0 : lot(7); i > 0; i--) {
            text.append("reflex ").append(cond()).append(" do ").append((char) ('a' + lot(acts))).append("; ");
        }
        if (chance(35)) {
            text.append("swing ").append(law(true)).append("; ");
        }
        if (chance(25)) {
            text.append("lean ").append(law(false)).append("; ");
        }
        String told = text.toString();
        return told.length() > 2000 ? "" : told;
    }

    /** A text with something changed, added, or taken away: mostly one with a FAULT. */
    private static String spoilt(String text) {
        StringBuilder changed = new StringBuilder(text);
        for (int i = 1 + lot(2); i > 0; i--) {
            int at = lot(changed.length() + 1);
            switch (lot(5)) {
                case 0 -> changed.insert(at, pick(" ", ";", "+", "-", "*", "/", "==", "!", "<", "=", "(", ")", "not ",
                    "and ", "or ", "if ", "do ", "9", "0", "10", "a", "act ", "gusts ", "rope ", "((((((", "\u00ff",
                    "act a 0 0;", "reflex 1<2 do b;", "gusts 3 2 1 0;", "rope 9;", "\t", "x"));
                case 1 -> changed.delete(at, Math.min(changed.length(), at + 1 + lot(4)));
                case 2 -> changed.setLength(at);
                case 3 -> {
                    if (at < changed.length()) {
                        changed.setCharAt(at, (char) lot(256));
                    }
                }
                default -> {
                    int end = Math.min(changed.length(), at + lot(30));
                    changed.insert(lot(changed.length() + 1), changed.substring(at, end));
                }
            }
        }
        return changed.length() > 2000 ? changed.substring(0, 2000) : changed.toString();
    }

    // ---- calls by lot ----

    private static int someState(Model m) {
        if (chance(3)) {
            return pickInt(-1, -2, 2079, Integer.MAX_VALUE, Integer.MIN_VALUE, lot(2079), 3000);
        }
        if (chance(20)) {
            return m.state(0, 0, 0);
        }
        List<Integer> all = m.states();
        if (chance(10)) {
            return all.get(chance(50) ? 0 : all.size() - 1);
        }
        return all.get(lot(all.size()));
    }

    private static int pickInt(int... of) {
        return of[lot(of.length)];
    }

    private static int around(int low, int high) {
        return chance(2) ? pickInt(Integer.MIN_VALUE, Integer.MAX_VALUE) : low - 1 + lot(high - low + 3);
    }

    private static void call(RopeSchool x, Model m, String run) {
        int s = someState(m);
        int i = around(0, 4);
        int n = around(1, 4);
        int p = around(1, 4);
        boolean most = chance(50);
        int g = around(-4, 4);
        int act = around(0, m.text.acts.size() - 1);
        String of = run + " of " + s + " ";
        switch (lot(44)) {
            case 0 -> DUE.is(of + "can " + act, x.can(s, act), m.can(s, act));
            case 1 -> DUE.is(of + "gust " + most, x.gust(s, most), m.gust(s, most));
            case 2 -> {
                int any = around(-12, 12);
                DUE.is(of + "next " + act + " " + any, x.next(s, act, any), m.next(s, act, any));
            }
            case 3, 4 -> DUE.is(of + "fate", x.fate(s), m.fate(s));
            case 5, 6 -> DUE.is(of + "keep", x.keep(s), m.keep(s));
            case 7 -> DUE.is(of + "reach", x.reach(s), m.reach(s));
            case 8 -> DUE.is(of + "lead", x.lead(s), m.lead(s));
            case 9 -> {
                int at = around(0, m.text.length);
                DUE.is(of + "safe " + at, x.safe(at), m.safe(at));
            }
            case 10 -> {
                int at = around(0, m.text.length);
                int swing = around(-m.text.fast, m.text.fast);
                DUE.is(run + " edge " + at + " " + swing, x.edge(at, swing, most), m.edge(at, swing, most));
            }
            case 11 -> DUE.is(run + " doom", x.doom(), m.doom());
            case 12 -> DUE.is(of + "borne", x.borne(s), m.borne(s));
            case 13 -> DUE.is(of + "poles", x.poles(s), m.poles(s));
            case 14, 15, 16 -> {
                int gust = chance(80) ? g : around(-12, 12);
                DUE.is(run + " forecast", x.forecast(gust), m.forecast(gust));
            }
            case 17 -> {
                if (chance(20)) {
                    x.clear();
                    m.forecasts.clear();
                }
            }
            case 18 -> DUE.is(of + "known", x.known(s), m.known(s));
            case 19 -> DUE.is(of + "knownAct " + i, x.knownAct(s, i), m.knownAct(s, i));
            case 20 -> DUE.is(of + "blind " + n, x.blind(s, n), m.blind(s, n));
            case 21 -> DUE.is(of + "blindAct " + n + " " + i, x.blindAct(s, n, i), m.blindAct(s, n, i));
            case 22 -> DUE.is(of + "reflex", x.reflex(s), m.reflex(s));
            case 23 -> DUE.is(of + "proof", x.proof(s), m.proof(s));
            case 24 -> DUE.is(of + "witness " + i, x.witness(s, i), m.witness(s, i));
            case 25 -> DUE.is(of + "arrives", x.arrives(s), m.arrives(s));
            case 26, 27 -> {
                int beats = around(0, 12);
                int what = around(0, 2);
                DUE.is(of + "odds " + beats + " " + what, x.odds(s, beats, what), m.odds(s, beats, what));
            }
            case 28 -> DUE.is(of + "learn", x.learn(s), m.learn(s));
            case 29 -> DUE.is(run + " learned " + i, x.learned(i), m.learned(i));
            case 30 -> {
                if (chance(30)) {
                    DUE.is(run + " forget", x.forget(), m.forget());
                }
            }
            case 31 -> DUE.is(of + "stand", x.stand(s), m.stand(s));
            case 32, 33, 34 -> {
                int gust = m.stands() >= 0 && chance(80) ? m.gust(m.stands(), most) : g;
                DUE.is(run + " beat " + act + " " + gust, Due.beat(x, act, gust), m.beat(act, gust));
            }
            case 35 -> DUE.is(run + " undo", x.undo(), m.undo());
            case 36 -> {
                int what = around(0, 3);
                DUE.is(run + " walked " + i + " " + what, x.walked(i, what), m.walked(i, what));
            }
            case 37 -> DUE.is(run + " blame", x.blame(), m.blame());
            case 38 -> {
                int seed = chance(50) ? lot(100) : lots.nextInt();
                int k = around(1, chance(90) ? 10 : 100);
                int beats = around(0, chance(90) ? 10 : 60);
                int what = around(0, 1);
                DUE.is(of + "drill " + seed + " " + k + " " + beats + " " + what, x.drill(s, seed, k, beats, what),
                    m.drill(s, seed, k, beats, what));
            }
            case 39 -> {
                int slot = around(0, 2);
                DUE.is(run + " hold " + slot, x.hold(slot), m.hold(slot));
            }
            case 40 -> {
                int slot = around(0, 2);
                int what = around(0, 2);
                DUE.is(run + " compare " + slot + " " + what, x.compare(slot, what), m.compare(slot, what));
            }
            case 41 -> {
                int what = around(0, 13);
                DUE.is(run + " count " + what, x.count(what), m.count(what, 0));
            }
            case 42 -> {
                if (chance(30)) {
                    DUE.is(run + " pole " + p, x.pole(p), m.pole(p));
                }
            }
            default -> {
                int lean = around(-m.text.wide, m.text.wide);
                int swing = around(-m.text.fast, m.text.fast);
                DUE.is(run + " state", x.state(i, lean, swing), m.state(i, lean, swing));
            }
        }
    }

    private static void oneRun(int seed) {
        lots = new Random(seed);
        RopeSchool x = new RopeSchool();
        Model m = new Model();
        List<String> told = new ArrayList<>();
        for (int i = chance(10) ? 40 : 0; i > 0; i--) {
            call(x, m, "run " + seed + " untold");
        }
        for (int reads = 1 + lot(3); reads > 0; reads--) {
            String text = text();
            for (int i = lot(3); i > 0; i--) {
                String bad = spoilt(text);
                DUE.is("run " + seed + " read of " + bad, Due.read(x, bad), m.read(bad));
                DUE.is("run " + seed + " place of " + bad, x.place(), m.latestPlace);
            }
            told.add(text);
            DUE.is("run " + seed + " read of " + text, Due.read(x, text), m.read(text));
            DUE.is("run " + seed + " place of " + text, x.place(), m.latestPlace);
            for (int i = 10 + lot(120); i > 0; i--) {
                call(x, m, "run " + seed);
            }
        }
        if (!DUE.allWell()) {
            System.out.println("run " + seed + " was told " + told);
            DUE.end();
        }
    }

    /** The first argument is the file of the class; a second and third one may name the seeds from .. to. */
    public static void main(String[] args) {
        int from = args.length > 2 ? Integer.parseInt(args[1]) : 1;
        int to = args.length > 2 ? Integer.parseInt(args[2]) : 300;
        for (int seed = from; seed <= to; seed++) {
            oneRun(seed);
        }
        DUE.end();
    }
}
