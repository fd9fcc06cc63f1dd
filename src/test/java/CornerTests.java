/** Edges that lie across promises: the first and the last STATE, the 401st TOKEN anywhere, what an earlier call leaves. */
public final class CornerTests {
    private static final Due DUE = new Due();

    private static RopeSchool told(String text) {
        RopeSchool x = new RopeSchool();
        DUE.is("read of " + text, Due.read(x, text), 0);
        return x;
    }

    /** Exactly n TOKENS (6 or more) of TELLS that are in order. */
    private static String filler(int n) {
        int fours = 0;
        while ((n - 4 * fours) % 3 != 0) {
            fours++;
        }
        return "rope 4;".repeat((n - 4 * fours) / 3) + "lean -1;".repeat(fours);
    }

    private static void lastToken(String... tokens) {
        for (int j = 0; j < tokens.length; j++) {
            StringBuilder text = new StringBuilder(filler(400 - j));
            int place = 0;
            for (int i = 0; i < tokens.length; i++) {
                place = i == j ? text.length() : place;
                text.append(tokens[i]).append(' ');
            }
            RopeSchool x = new RopeSchool();
            DUE.is("the 401st TOKEN is " + tokens[j] + " of " + String.join(" ", tokens), Due.read(x, text.toString()), 2);
            DUE.is("and its place", x.place(), place);
            text.setLength(place);
            text.append("? ;");
            DUE.is("what is none there", Due.read(x, text.toString()), 1);
            DUE.is("and its place", x.place(), place);
        }
        RopeSchool x = new RopeSchool();
        String all = "act a 0 0;" + String.join(" ", tokens);
        DUE.is(all, Due.read(x, all), 0);
        String full = filler(400 - tokens.length - 5) + all;
        DUE.is("400 TOKENS with " + all, Due.read(x, full), 0);
    }

    private static void lastTokens() {
        lastToken("rope", "4", ";");
        lastToken("wide", "4", ";");
        lastToken("swing", "-", "(", "lean", "+", "1", ")", "*", "2", ";");
        lastToken("lean", "lean", "/", "-", "-", "3", ";");
        lastToken("act", "z", "-", "1", "-", "1", "if", "not", "not", "1", "<", "2", "and", "at", "!=", "3", "or",
            "(", "pole", ")", "<=", "4", ";");
        lastToken("act", "zz", "1", "1", ";");
        lastToken("gusts", "0", "1", "-", "2", "-", "1", "if", "1", "==", "1", ";");
        lastToken("gusts", "0", "1", "0", "1", ";");
    }

    private static void words() {
        RopeSchool x = new RopeSchool();
        for (String word : "rope wide fast act gusts reflex if do or and not x zz".split(" ")) {
            DUE.is(word + " is no VAR", Due.read(x, "swing " + word + ";"), 1);
            DUE.is("its place", x.place(), 6);
        }
        DUE.is("all letters", Due.read(x, "act azazazaz 0 0; act zzzzzzzz 1 0; reflex 1<2 do zzzzzzzz;"), 0);
        DUE.is("the second one is meant", x.reflex(115), 1);
        DUE.is("names differ by one letter", Due.read(x, "act aaaaaaaa 0 0; act aaaaaaab 1 0; act baaaaaaa 1 0; act a 0 0; act aa 0 0;"), 0);
    }

    private static void manyReads() {
        RopeSchool x = new RopeSchool();
        String law = "act a 0 1;act b 0 0;swing " + "1+".repeat(150) + "swing-150;reflex lean==2 do b;";
        for (int i = 0; i < 20; i++) {
            DUE.is("read " + i, Due.read(x, law), 0);
            DUE.is("next " + i, x.next(x.state(0, 1, 1), 0, 0), x.state(1, 2, 1));
            DUE.is("reflex " + i, x.reflex(x.state(0, 2, 0)), 1);
        }
    }

    private static void untold() {
        RopeSchool x = new RopeSchool();
        DUE.is("the laws of a new object", x.next(x.state(1, 4, 1), 0, -1), x.state(2, 5, 1));
        DUE.is("its fate", x.fate(x.state(0, 6, 3)), 0);
        DUE.is("its poles", x.poles(115), 1);
        DUE.is("its reach", x.reach(115), 4);
        DUE.is("its blind rows", x.blind(115, 4), 1);
    }

    /** STATE 0 in all calls: it stays where it is, and one may wait there, go on or fall. */
    private static void stateZero() {
        RopeSchool x = told("rope 8; wide 10; fast 5; act st 0 0; act up 0 1; act no 9 0 if at == 0; swing swing-push*gust*gust; lean lean;"
            + "gusts 0 0 0 1; reflex at == 0 do no;");
        DUE.is("state", x.state(0, -10, -5), 0);
        DUE.is("can", x.can(0, 0), 1);
        DUE.is("gust", x.gust(0, true), 1);
        DUE.is("next", x.next(0, 0, -12), 0);
        DUE.is("next up", x.next(0, 1, 12), 231);
        DUE.is("next no", x.next(0, 2, 1), -2);
        DUE.is("fate", x.fate(0), -2);
        DUE.is("keep", x.keep(0), 0);
        DUE.is("reach", x.reach(0), 8);
        DUE.is("lead", x.lead(0), 1);
        DUE.is("borne", x.borne(0), 6);
        DUE.is("poles", x.poles(0), 1);
        DUE.is("edge", x.edge(0, -5, false), -10);
        DUE.is("safe", x.safe(0), 231);
        DUE.is("all are safe", x.count(12), 2079);
        DUE.is("no doom", x.doom(), -1);
        DUE.is("hold", x.hold(0), 2079);
        DUE.is("compare", x.compare(0, 0), 2079);
        DUE.is("blind", x.blind(0, 2), 4);
        DUE.is("blindAct", x.blindAct(0, 2, 1), 0);
        DUE.is("reflex", x.reflex(0), 2);
        DUE.is("proof", x.proof(0), 1);
        DUE.is("witness", x.witness(0, 0), 1);
        DUE.is("arrives", x.arrives(0), -2);
        DUE.is("odds, fall", x.odds(0, 3, 0), 3);
        DUE.is("odds, all", x.odds(0, 3, 2), 4);
        DUE.is("drill", x.drill(0, 1, 50, 60, 0), 50);
        DUE.is("learn", x.learn(0), 1);
        DUE.is("learned", x.learned(0), 0);
        DUE.is("the LEARNED ACT", x.reflex(0), 0);
        DUE.is("proof then", x.proof(0), 0);
        DUE.is("stand", x.stand(0), true);
        DUE.is("beat", Due.beat(x, 0, 1), 0);
        DUE.is("beat", Due.beat(x, 2, 1), -2);
        DUE.is("blame", x.blame(), 1);
        for (int i = 0; i < 9; i++) {
            x.forecast(i);
        }
        DUE.is("known", x.known(0), 8);
        DUE.is("knownAct", x.knownAct(0, 0), 1);
        DUE.is("no more than that", x.knownAct(0, 8), -1);
    }

    /** Ways that pass through STATE 0 from elsewhere, and end OVER in the first STATE of the last place. */
    private static void throughStateZero() {
        RopeSchool x = told("rope 1; wide 10; fast 5; act in 0 0 if lean != -10; act up 0 1 if lean == -10; swing -5; lean -10-gust;"
            + "gusts 0 0 0 1; gusts 0 0 0 0 if lean == -10;");
        DUE.is("falls by gust 1", x.proof(115), 1);
        DUE.is("odds, OVER", x.odds(115, 2, 1), 1);
        DUE.is("odds, all", x.odds(115, 2, 2), 2);
        DUE.is("odds after one, all", x.odds(115, 1, 2), 2);
        DUE.is("odds after one, OVER", x.odds(115, 1, 1), 0);
        DUE.is("from STATE 0", x.arrives(0), 1);
        DUE.is("FATE", x.fate(115), 0);
        DUE.is("SAFE", x.safe(0), 11);
        DUE.is("SAFE AT 1", x.safe(1), 231);
        x.forecast(0);
        x.forecast(0);
        DUE.is("known", x.known(115), 2);
        DUE.is("knownAct", x.knownAct(115, 1), 1);
        x = told("rope 1; wide 10; fast 5; act in 0 0 if lean != -10; act up 0 1 if lean == -10 and swing != -5; swing -5; lean -10;");
        DUE.is("into STATE 0, where no ACT CAN be done", x.proof(115), 2);
        DUE.is("witness", x.witness(115, 0), 0);
        DUE.is("fate", x.fate(115), 1);
        DUE.is("doom", x.doom(), 1);
        DUE.is("blind 1", x.blind(115, 1), 1);
        DUE.is("blind 2", x.blind(115, 2), 0);
        DUE.is("drill", x.drill(115, 0, 3, 2, 0), 3);
        DUE.is("drill of one BEAT", x.drill(115, 0, 3, 1, 0), 0);
        x = told("rope 1; wide 10; fast 5; act in 0 0 if lean != -10; act up 0 1 if lean == -10; swing -5; lean -10;");
        DUE.is("arrives", x.arrives(115), 2);
        DUE.is("reach", x.reach(115), 2);
        DUE.is("fate", x.fate(115), -2);
        DUE.is("drill", x.drill(115, 0, 3, 2, 1), 3);
        DUE.is("odds, OVER", x.odds(115, 2, 1), 1);
        DUE.is("blind", x.blind(115, 2), 1);
        DUE.is("the last STATE", x.next(230, 0, 12), 0);
        x = told("rope 1; wide 10; fast 5; act in 0 0 if lean != -9; swing -5; lean -10+lean/-10; gusts 0 0 2 2 if lean == -10;");
        DUE.is("into STATE 0 and on to a fall", x.proof(115), 3);
        DUE.is("witness 0", x.witness(115, 0), 0);
        DUE.is("witness 1", x.witness(115, 1), 2);
        DUE.is("witness 2", x.witness(115, 2), 0);
        x = told("wide 10; fast 5; act st 0 0 if at != 0 or lean != -10 or swing != -5 or pole == 3; swing swing; lean lean;");
        DUE.is("STATE 0 alone is not SAFE", x.doom(), 0);
        DUE.is("but with POLE 3", x.poles(0), 3);
        x = told("rope 8; wide 10; fast 5; swing 5; lean 10;");
        DUE.is("the last STATE of all", x.next(7 * 231, 0, 12), 2078);
        DUE.is("it is OVER", x.fate(2078), -2);
        DUE.is("reach", x.reach(7 * 231), 1);
    }

    private static void staleAnswers() {
        RopeSchool x = told("rope 2; wide 2; fast 2; act l 1 0; act r -1 0; act go 0 1; gusts 0 1 0 1;");
        x.stand(115);
        Due.beat(x, 2, 1);
        DUE.is("blame as the first that wants FATE", x.blame(), 0);
        x = told("rope 1; wide 2; fast 2; act a 1 1; act b 2 1;");
        x.forecast(2);
        DUE.is("KNOWN by POLE 1", x.knownAct(115, 0), 0);
        x.pole(4);
        DUE.is("KNOWN by POLE 4", x.known(115), 1);
        DUE.is("KNOWN by POLE 4: 2 - 4", x.knownAct(115, 0), 0);
        x.clear();
        x.forecast(7);
        DUE.is("7 - 8", x.knownAct(115, 0), 1);
        x.pole(3);
        DUE.is("7 - 6", x.knownAct(115, 0), 1);
        x.pole(2);
        DUE.is("7 - 4", x.knownAct(115, 0), -1);
        x = told("rope 2; wide 2; fast 2; act up 0 1; act st 0 0; swing gust*at; lean lean;");
        x.forecast(0);
        x.forecast(0);
        DUE.is("up and up", x.known(115), 2);
        x.clear();
        x.forecast(0);
        x.forecast(5);
        x.forecast(0);
        x.forecast(0);
        DUE.is("the gust is waited for", x.known(115), 3);
        DUE.is("at the start", x.knownAct(115, 0), 1);
        DUE.is("then up", x.knownAct(115, 1), 0);
        DUE.is("and up", x.knownAct(115, 2), 0);
    }

    private static void arrivesByMoreThanOnePass() {
        RopeSchool x = told("rope 3; wide 3; fast 3; act up 0 1; act dn 1 0; swing 0; lean lean+gust-push; gusts 0 0 1 2;"
            + "reflex lean == 2 do dn;");
        DUE.is("by lean 2, then 1", x.arrives(115), 4);
        DUE.is("from lean 2", x.arrives(x.state(1, 2, 0)), 3);
        DUE.is("from lean 1", x.arrives(x.state(1, 1, 0)), 2);
    }

    private static void manyGusts() {
        RopeSchool x = told("act a 0 0; swing 0; lean 0; gusts 0 8 -6 6;");
        DUE.is("all gusts lead to one STATE", x.blind(115, 4), 1);
        x = told("act a 0 0; act b 0 1; wide 10; fast 5; swing gust/2; lean lean/2+swing; gusts 0 8 -6 6;");
        DUE.is("all rows do", x.blind(115, 4), 16);
        x = told("act a 0 0;");
        x.stand(115);
        for (int i = 0; i < 200; i++) {
            Due.beat(x, 0, 0);
        }
        DUE.is("where one stands after 200 BEATS", x.count(13), 115);
    }

    public static void main(String[] args) {
        lastTokens();
        words();
        manyReads();
        untold();
        stateZero();
        throughStateZero();
        staleAnswers();
        arrivesByMoreThanOnePass();
        manyGusts();
        DUE.end();
    }
}
