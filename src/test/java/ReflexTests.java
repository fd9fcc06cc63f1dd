/** Promises 26 to 33 and 39: REFLEXES, proved or shown to fall, their ODDS, LEARNING, DRILLS. */
public final class ReflexTests {
    private static final Due DUE = new Due();
    /** Who leans does not come back by itself: the reflexes push against it, but never at lean 2. */
    private static final String PUSHES = "rope 3; wide 3; fast 2; act stay 0 1; act l 1 1; act r -1 1 if lean < 0;"
        + "gusts 0 3 0 1; reflex lean == -1 do r; reflex 0 < lean and lean != 2 do l; reflex swing < 0 do r;";

    private static RopeSchool told(String text) {
        RopeSchool x = new RopeSchool();
        DUE.is("read of " + text, Due.read(x, text), 0);
        return x;
    }

    private static void reflex() {
        RopeSchool x = told(PUSHES);
        DUE.is("no COND holds: the first ACT", x.reflex(115), 0);
        DUE.is("the first reflex", x.reflex(x.state(0, -1, 0)), 2);
        DUE.is("the second reflex", x.reflex(x.state(0, 1, -1)), 1);
        DUE.is("its ACT can't be done: the first that CAN", x.reflex(x.state(0, 2, -1)), 0);
        DUE.is("the third reflex", x.reflex(x.state(0, -2, -1)), 2);
        DUE.is("OVER", x.reflex(x.state(3, 0, 0)), -2);
        DUE.is("none such", x.reflex(118), -1);
        x = told("act a 0 0 if lean < 0; act b 0 0 if lean < 1; reflex 1 == 1 do a;");
        DUE.is("the first that CAN be done", x.reflex(115), 1);
        DUE.is("none CAN be done", x.reflex(x.state(0, 1, 0)), -2);
    }

    private static void proofAndWitness() {
        RopeSchool x = told("rope 4; wide 3; fast 3; act a 0 0 if lean != 2; gusts 0 4 -1 1; gusts 0 4 -2 -1 if lean == 3;");
        // swing and lean go by gusts alone: gust -1 twice is swing -2, lean -3, and then whatever comes may be the fall
        DUE.is("proof", x.proof(115), 3);
        int[] due = {-1, -1, -1};
        for (int i = 0; i < 3; i++) {
            DUE.is("witness " + i, x.witness(115, i), due[i]);
        }
        DUE.is("witness 3", x.witness(115, 3), -100);
        DUE.is("witness -1", x.witness(115, -1), -100);
        DUE.is("no ACT: falls by the least gust", x.proof(x.state(0, 2, 0)), 1);
        DUE.is("no ACT: falls by the least gust", x.witness(x.state(0, 2, 0), 0), -1);
        DUE.is("into where no ACT CAN be done", x.proof(x.state(0, 1, 0)), 2);
        DUE.is("by gust 1", x.witness(x.state(0, 1, 0), 0), 1);
        DUE.is("then by the least", x.witness(x.state(0, 1, 0), 1), -1);
        DUE.is("OVER never falls", x.proof(x.state(4, 3, 3)), 0);
        DUE.is("OVER has no witness", x.witness(x.state(4, 3, 3), 0), -100);
        DUE.is("proof of none", x.proof(119 + 1), -1);
        DUE.is("witness of none", x.witness(-1, 0), -100);
        x = told("act a 0 0;");
        DUE.is("never falls", x.proof(115), 0);
        DUE.is("never falls, no witness", x.witness(115, 0), -100);
    }

    private static void arrives() {
        RopeSchool x = told("rope 3; wide 3; fast 3; act up 0 1; act dn 0 -1; act st 0 0; gusts 1 1 0 1; swing gust; lean gust;"
            + "reflex at == 2 and lean == 1 do dn; reflex lean == 2 do st;");
        // AT 2 with lean 1 goes back to AT 1, there gust 1 again: round and round
        DUE.is("may go round", x.arrives(115), -2);
        DUE.is("may go round", x.arrives(x.state(1, 0, 0)), -2);
        DUE.is("from AT 2", x.arrives(x.state(2, 0, 0)), 1);
        DUE.is("OVER", x.arrives(x.state(3, 0, 0)), 0);
        DUE.is("none such", x.arrives(-1), -1);
    }

    private static void arrivesWithoutRounds() {
        RopeSchool x = told("rope 3; wide 3; fast 3; act up 0 1; act dn 0 -1; act st 0 0;"
            + "gusts 0 1 0 2 if lean == 0; swing gust; lean lean+gust;"
            + "reflex at == 1 and lean == 1 do dn; reflex at == 2 and lean == 2 do st;");
        DUE.is("stays for ever AT 2 with lean 2", x.arrives(115), -2);
        x = told("rope 3; wide 3; fast 3; act up 0 1; act st 0 0; gusts 0 2 0 1; swing gust; lean 3*gust-3+lean*0;"
            + "reflex lean == 0 and swing == 0 do st;");
        // from 0 0 one stays: lean becomes -3 or 0 with swing 1, and from there it is 3 BEATS up
        DUE.is("one BEAT more", x.arrives(115), 4);
        DUE.is("from lean -3", x.arrives(x.state(0, -3, 0)), 3);
        x = told("rope 1; wide 1; fast 1; act up 0 1; gusts 0 0 0 1;");
        DUE.is("may fall", x.arrives(x.state(0, 1, 0)), -2);
        DUE.is("can't fall", x.arrives(x.state(0, 0, 0)), 1);
    }

    private static void odds() {
        RopeSchool x = told("rope 2; wide 1; fast 1; act up 0 1; act no 0 1 if 1 == 2; gusts 0 0 0 2; gusts 1 1 -1 1;");
        // gust 2 falls at once, gust 1 leads to (1, 1, 1), gust 0 to (1, 0, 0); there -1, 0, 1: one of six falls not ..
        DUE.is("odds 0 beats, fall", x.odds(115, 0, 0), 0);
        DUE.is("odds 0 beats, OVER", x.odds(115, 0, 1), 0);
        DUE.is("odds 0 beats, all", x.odds(115, 0, 2), 1);
        DUE.is("odds 1, fall", x.odds(115, 1, 0), 1);
        DUE.is("odds 1, OVER", x.odds(115, 1, 1), 0);
        DUE.is("odds 1, all", x.odds(115, 1, 2), 3);
        // from (1, 0, 0) all three are fine; from (1, 1, 1): -1 is swing 0, lean 1: fine; 0 is lean 2, 1 is swing 2: falls
        DUE.is("odds 2, fall", x.odds(115, 2, 0), 1 + 2);
        DUE.is("odds 2, OVER", x.odds(115, 2, 1), 4);
        DUE.is("odds 2, all", x.odds(115, 2, 2), 7);
        DUE.is("odds 12: the rows have ended", x.odds(115, 12, 2), 7);
        DUE.is("OVER at once", x.odds(x.state(2, 0, 0), 0, 1), 1);
        DUE.is("OVER at once", x.odds(x.state(2, 0, 0), 5, 2), 1);
        DUE.is("n 13", x.odds(115, 13, 0), -1);
        DUE.is("n -1", x.odds(115, -1, 0), -1);
        DUE.is("what 3", x.odds(115, 1, 3), -1);
        DUE.is("what -1", x.odds(115, 1, -1), -1);
        DUE.is("none such", x.odds(117, 1, 0), -1);
        x = told("act a 0 0; swing 0; lean 0; gusts 0 8 -6 6;");
        long all = 1;
        for (int n = 0; n <= 12; n++) {
            DUE.is("13 gusts, " + n + " beats", x.odds(115, n, 2), all);
            all *= 13;
        }
        x = told("act a 0 0 if lean != 0; gusts 0 8 -1 1;");
        DUE.is("no ACT: each gust is a row that falls", x.odds(115, 5, 0), 3);
        DUE.is("no ACT: each gust is a row that falls", x.odds(115, 5, 2), 3);
    }

    private static void learn() {
        RopeSchool x = told("rope 2; wide 1; fast 1; act up 0 1; act l 1 1; act r -1 1;");
        // (0, 1, 1) falls by up, not by l; the law is swing - push
        int s = x.state(0, 1, 1);
        DUE.is("the reflex falls", x.proof(s), 1);
        DUE.is("learn", x.learn(s), 1);
        DUE.is("learned 0", x.learned(0), s);
        DUE.is("learned 1", x.learned(1), -1);
        DUE.is("learned -1", x.learned(-1), -1);
        DUE.is("learned by far", x.learned(Integer.MAX_VALUE), -1);
        DUE.is("the LEARNED ACT is KEEP", x.reflex(s), x.keep(s));
        DUE.is("never falls now", x.proof(s), 0);
        DUE.is("nothing more to learn", x.learn(s), 0);
        int t = x.state(0, -1, -1);
        DUE.is("more", x.learn(t), 1);
        DUE.is("in their order", x.learned(1), t);
        DUE.is("count(8)", x.count(8), 2);
        DUE.is("forget", x.forget(), 2);
        DUE.is("forget of none", x.forget(), 0);
        DUE.is("count(8), none", x.count(8), 0);
        DUE.is("it falls again", x.proof(s), 1);
        DUE.is("by the first ACT", x.reflex(s), 0);
        DUE.is("learn of none", x.learn(117), -1);
        DUE.is("learned of none", x.learned(0), -1);
        x = told("act a 0 0 if lean < 0;");
        DUE.is("nothing is SAFE: nothing is LEARNED", x.learn(115), 0);
        DUE.is("though it falls", x.proof(115), 1);
    }

    private static void learnUpToForty() {
        // the first ACT falls, the second one stays up, each gust leads to a STATE of its own: more than 40 of them
        RopeSchool x = told("rope 8; wide 10; fast 5; act bad 9 0; act good 0 0; swing push*9+gust; lean push*99+lean+gust+at*0;"
            + "gusts 0 8 -3 3; gusts 0 8 0 3 if lean < -5; gusts 0 8 -3 0 if 5 < lean;");
        DUE.is("SAFE", x.fate(115), -2);
        DUE.is("forty", x.learn(115), 40);
        DUE.is("count(8)", x.count(8), 40);
        DUE.is("no more", x.learn(115), 0);
        DUE.is("nor from elsewhere", x.learn(x.state(1, 0, 0)), 0);
        DUE.is("the last one is there", x.learned(39) >= 0, true);
        DUE.is("no 41st", x.learned(40), -1);
        DUE.is("forget", x.forget(), 40);
        DUE.is("all over again", x.learn(115), 40);
    }

    private static int lot(int n, int seed, int which) {
        int h = (seed ^ 3) * 1103515245 + 12345;
        h ^= h >>> 15;
        h = (h ^ which) * 1103515245 + 12345;
        h ^= h >>> 15;
        return (h >>> 1) % n;
    }

    private static void drill() {
        RopeSchool x = told("rope 1; wide 10; fast 5; act up 0 1; gusts 0 0 1 6;");
        for (int seed : new int[] {0, 1, 7, -1, Integer.MAX_VALUE, Integer.MIN_VALUE, 123456789}) {
            int fell = 0;
            for (int i = 0; i < 20; i++) {
                fell += 1 + lot(6, seed + i, 0) > 5 ? 1 : 0;
            }
            DUE.is("drill fell, seed " + seed, x.drill(115, seed, 20, 3, 0), fell);
            DUE.is("drill OVER, seed " + seed, x.drill(115, seed, 20, 3, 1), 20 - fell);
        }
        x = told("rope 1; wide 10; fast 5; act st 0 0; act up 0 1; swing gust; lean lean+gust*0; gusts 0 1 -1 5; reflex swing == 5 do up;");
        for (int seed = 0; seed < 5; seed++) {
            int over = 0;
            for (int i = 0; i < 30; i++) {
                int hit = 99;
                for (int b = 9; b >= 0; b--) {
                    hit = lot(7, seed + i, b) == 6 ? b : hit;
                }
                over += hit + 2 <= 10 ? 1 : 0;
            }
            DUE.is("drill by lots of BEATS, seed " + seed, x.drill(115, seed, 30, 10, 1), over);
            DUE.is("none fell, seed " + seed, x.drill(115, seed, 30, 10, 0), 0);
        }
        DUE.is("n 0", x.drill(115, 0, 5, 0, 1), 0);
        DUE.is("n 0, OVER", x.drill(x.state(1, 0, 0), 0, 5, 0, 1), 5);
        DUE.is("n -1", x.drill(115, 0, 5, -1, 1), -1);
        DUE.is("n 60", x.drill(115, 0, 1, 60, 0), 0);
        DUE.is("n 61", x.drill(115, 0, 1, 61, 0), -1);
        DUE.is("k 0", x.drill(115, 0, 0, 5, 0), -1);
        DUE.is("k 100", x.drill(115, 0, 100, 0, 0), 0);
        DUE.is("k 101", x.drill(115, 0, 101, 5, 0), -1);
        DUE.is("what 2", x.drill(115, 0, 5, 5, 2), -1);
        DUE.is("what -1", x.drill(115, 0, 5, 5, -1), -1);
        DUE.is("none such", x.drill(-1, 0, 5, 5, 0), -1);
        x = told("act a 0 0 if lean != 0;");
        DUE.is("no ACT: all fall", x.drill(115, 0, 5, 1, 0), 5);
    }

    public static void main(String[] args) {
        reflex();
        proofAndWitness();
        arrives();
        arrivesWithoutRounds();
        odds();
        learn();
        learnUpToForty();
        drill();
        DUE.end();
    }
}
