/** Promises 6 to 19: the POLE, STATES, ACTS, gusts, BEATS, and what rounds find. */
public final class RoundsTests {
    private static final Due DUE = new Due();
    /** Pushes do nothing here: who swings drifts by 1 a BEAT, up or down, and gets OVER in time or falls. */
    private static final String DRIFT =
        "rope 3; wide 2; fast 1; act up 0 1; act dn 0 -1; act no 0 0 if lean == 0 and at != 1;";

    private static RopeSchool told(String text) {
        RopeSchool x = new RopeSchool();
        DUE.is("read of " + text, Due.read(x, text), 0);
        return x;
    }

    private static void pole() {
        RopeSchool x = told(DRIFT);
        x.forecast(0);
        for (int p : new int[] {0, 5, -1, Integer.MIN_VALUE, Integer.MAX_VALUE}) {
            DUE.is("pole " + p, x.pole(p), false);
        }
        DUE.is("the POLE at first", x.count(6), 1);
        for (int p = 4; p >= 1; p--) {
            x.stand(115);
            DUE.is("pole(6) with a WALK", x.pole(6), false);
            DUE.is("the WALK goes on", x.count(9), 0);
            DUE.is("pole " + p, x.pole(p), true);
            DUE.is("the POLE", x.count(6), p);
            DUE.is("the WALK is gone", x.count(9), -1);
        }
        DUE.is("FORECASTS stay", x.count(7), 1);
        x = told("rope 2; wide 2; fast 2; act l 1 0; act r -1 0; act go 0 1; gusts 0 1 0 1;");
        x.learn(115);
        DUE.is("LEARNED", x.count(8), 5);
        DUE.is("the same POLE", x.pole(1), true);
        DUE.is("LEARNED, gone", x.count(8), 0);
        DUE.is("push by POLE 1", x.next(115, 0, 0), x.state(0, -1, -1));
        x.pole(2);
        DUE.is("push by POLE 2", x.next(115, 0, 0), x.state(0, -2, -2));
    }

    private static void state() {
        RopeSchool x = told("rope 8; wide 10; fast 5;");
        DUE.is("the least", x.state(0, -10, -5), 0);
        DUE.is("the greatest", x.state(8, 10, 5), 2078);
        DUE.is("one between", x.state(3, -4, 2), (3 * 21 - 4 + 10) * 11 + 2 + 5);
        int[][] none = {{-1, 0, 0}, {9, 0, 0}, {0, -11, 0}, {0, 11, 0}, {0, 0, -6}, {0, 0, 6},
            {Integer.MIN_VALUE, 0, 0}, {0, Integer.MIN_VALUE, 0}, {0, 0, Integer.MIN_VALUE},
            {Integer.MAX_VALUE, 0, 0}, {0, Integer.MAX_VALUE, 0}, {0, 0, Integer.MAX_VALUE}};
        for (int[] n : none) {
            DUE.is("state " + n[0] + " " + n[1] + " " + n[2], x.state(n[0], n[1], n[2]), -1);
        }
        x = told(DRIFT);
        DUE.is("too wide here", x.state(0, 3, 0), -1);
        DUE.is("too fast here", x.state(0, 0, 2), -1);
        DUE.is("too far here", x.state(4, 0, 0), -1);
        DUE.is("the last place", x.state(3, 2, -1), (3 * 21 + 12) * 11 + 4);
    }

    private static void canAndGust() {
        RopeSchool x = told(DRIFT + "gusts 0 2 -1 2; gusts 1 1 0 0 if lean<0; gusts 1 2 -6 -5 if lean<-1; gusts 3 8 4 6;");
        DUE.is("no COND", x.can(x.state(0, 1, 0), 0), 1);
        DUE.is("COND holds", x.can(x.state(0, 0, 1), 2), 1);
        DUE.is("COND does not", x.can(x.state(0, 1, 1), 2), 0);
        DUE.is("COND does not", x.can(x.state(1, 0, 1), 2), 0);
        DUE.is("OVER", x.can(x.state(3, 0, 0), 0), 0);
        DUE.is("no such ACT", x.can(115, 3), -1);
        DUE.is("no such ACT", x.can(115, -1), -1);
        DUE.is("no such STATE", x.can(-1, 0), -1);
        DUE.is("no such STATE", x.can(116 + 1, 0), -1);
        DUE.is("least gust", x.gust(115, false), -1);
        DUE.is("greatest gust", x.gust(115, true), 2);
        DUE.is("the last that holds", x.gust(x.state(1, -1, 0), true), 0);
        DUE.is("the last that holds", x.gust(x.state(1, -2, 0), true), -5);
        DUE.is("the last that holds", x.gust(x.state(2, -2, 0), false), -6);
        DUE.is("the last that holds", x.gust(x.state(2, -1, 0), false), -1);
        DUE.is("gust of OVER", x.gust(x.state(3, 0, 0), true), 6);
        DUE.is("no such STATE", x.gust(117, true), -100);
        DUE.is("no such STATE", x.gust(-5, false), -100);
        DUE.is("no such STATE", x.gust(2079, false), -100);
        x = told("gusts 0 0 3 4;");
        DUE.is("where none is told", x.gust(x.state(1, 0, 0), false), 0);
        DUE.is("where none is told", x.gust(x.state(1, 0, 0), true), 0);
    }

    private static void condVars() {
        RopeSchool x = told("act a 3 0 if push == 3 and gust == 0 and pole == 1; act b -3 0 if push == 3;"
            + "act c 0 0 if pole == 2; gusts 0 8 1 2 if push == 0 and gust == 0; gusts 0 8 3 4 if pole == 2;"
            + "reflex push == 0 and gust == 0 and pole == 2 do c;");
        DUE.is("push of the ACT", x.can(115, 0), 1);
        DUE.is("push of the ACT", x.can(115, 1), 0);
        DUE.is("POLE 1", x.can(115, 2), 0);
        DUE.is("no ACT, no gust: 0", x.gust(115, true), 2);
        DUE.is("reflex with POLE 1", x.reflex(115), 0);
        x.pole(2);
        DUE.is("POLE 2", x.can(115, 0), 0);
        DUE.is("POLE 2", x.can(115, 2), 1);
        DUE.is("POLE 2", x.gust(115, true), 4);
        DUE.is("reflex with POLE 2", x.reflex(115), 2);
        x = told("act a 0 0 if 1/lean == 1; act b 0 0 if not 1/lean == 1; act c 0 0 if not not 1/lean == 1;"
            + "act d 0 0 if 1/lean != 1 or lean == 0; act e 0 0 if 0*(1/lean) == 0 and 1 == 1;");
        int[] zero = {0, 1, 0, 1, 0};
        int[] one = {1, 0, 1, 0, 1};
        for (int a = 0; a < 5; a++) {
            DUE.is("division by 0, ACT " + a, x.can(115, a), zero[a]);
            DUE.is("division by 1, ACT " + a, x.can(x.state(0, 1, 0), a), one[a]);
        }
        x = told("act a 0 0 if -7/2 == -3 and 7/-2 == -3; act b 0 0 if 9999*9999*9999*9999*9999 < 0;"
            + "act c 0 0 if 2-1-1 == 0 and 8/4/2 == 1 and 2+3*4 == 14 and (2+3)*4 == 20 and -2*-3 == 6;"
            + "act d 0 0 if 1 == 2 and 1 == 1 or 1 == 1; act e 0 0 if 1 == 1 or 1 == 1 and 1 == 2;"
            + "act f 0 0 if --3 - -3 == 6 and -(1+2)+3 == 0;");
        long wrapped = (int) (9999L * 9999 * 9999 * 9999 % (1L << 32) * 9999);
        int[] due = {1, wrapped < 0 ? 1 : 0, 1, 1, 1, 1};
        for (int a = 0; a < 6; a++) {
            DUE.is("sums, ACT " + a, x.can(115, a), due[a]);
        }
    }

    private static void next() {
        RopeSchool x = told(DRIFT);
        DUE.is("up", x.next(115, 0, 0), x.state(1, 0, 0));
        DUE.is("down is held to 0", x.next(115, 1, 0), 115);
        DUE.is("gust 1 of no gusts", x.next(115, 0, 1), x.state(1, 1, 1));
        DUE.is("gust 2: too fast", x.next(115, 0, 2), -2);
        DUE.is("too wide", x.next(x.state(0, 2, 1), 0, 0), -2);
        DUE.is("too wide the other way", x.next(x.state(0, -2, -1), 0, 0), -2);
        DUE.is("can't be done", x.next(x.state(0, 1, 0), 2, 0), -3);
        DUE.is("OVER", x.next(x.state(3, 0, 0), 0, 0), -3);
        DUE.is("gust 12", x.next(115, 0, 12), -2);
        DUE.is("gust 13", x.next(115, 0, 13), -1);
        DUE.is("gust -12", x.next(115, 0, -12), -2);
        DUE.is("gust -13", x.next(115, 0, -13), -1);
        DUE.is("no gust goes ahead of can't", x.next(x.state(3, 0, 0), 0, 13), -1);
        DUE.is("no such ACT", x.next(115, 3, 0), -1);
        DUE.is("no such STATE", x.next(117, 0, 0), -1);
        x = told("rope 8; wide 10; fast 5; act a 2 1; act b -1 -1;");
        x.pole(2);
        DUE.is("the laws if none is told", x.next(x.state(3, 9, 1), 0, 1), x.state(4, 9, 1 + 2 + 1 - 4));
        DUE.is("lean / 4 is rounded towards 0", x.next(x.state(3, -3, 1), 1, 0), x.state(2, 0, 3));
        x = told("rope 8; wide 10; fast 5; act a 2 1; swing gust*2-push+pole*at-swing; lean lean*2+swing-push+gust;"
            + "swing swing+gust+push;");
        DUE.is("told laws, the last ones", x.next(x.state(3, 2, 1), 0, 1), x.state(4, 4 + 4 - 2 + 1, 4));
        x = told("act a 0 1; swing 1/lean; lean 4/swing;");
        DUE.is("swing divides by 0", x.next(115, 0, 0), -2);
        DUE.is("lean divides by 0", x.next(x.state(0, 2, 1), 0, 0), -2);
        DUE.is("neither does", x.next(x.state(0, 1, 0), 0, 0), x.state(1, 4, 1));
        DUE.is("neither does", x.next(x.state(0, -1, 0), 0, 0), x.state(1, -4, -1));
    }

    private static void fateAndKeep() {
        RopeSchool x = told(DRIFT);
        for (int at = 0; at < 3; at++) {
            for (int lean = -2; lean <= 2; lean++) {
                int s = x.state(at, lean, 1);
                boolean safe = lean <= at - 1;
                DUE.is("fate, swing 1, at " + at + " lean " + lean, x.fate(s), safe ? -2 : 2 - lean);
                DUE.is("fate, swing -1, at " + at + " lean " + -lean, x.fate(x.state(at, -lean, -1)), safe ? -2 : 2 - lean);
                DUE.is("fate, swing 0", x.fate(x.state(at, lean, 0)), -2);
            }
        }
        DUE.is("fate OVER", x.fate(x.state(3, 2, 1)), -2);
        DUE.is("keep OVER", x.keep(x.state(3, 2, 1)), -2);
        DUE.is("keep of FATE 2", x.keep(x.state(0, 0, 1)), 0);
        DUE.is("keep of FATE 0: the first that CAN be done", x.keep(x.state(0, 2, 1)), 0);
        DUE.is("fate of none", x.fate(117), -1);
        DUE.is("keep of none", x.keep(117), -1);
        DUE.is("fate of -1", x.fate(-1), -1);
        DUE.is("keep of 2079", x.keep(2079), -1);
        x = told("wide 2; fast 2; act a 1 0 if lean<0; act b 0 0 if lean<2; act c 0 1 if lean<1;");
        DUE.is("no ACT CAN be done: FATE 0", x.fate(x.state(0, 2, 0)), 0);
        DUE.is("no ACT CAN be done: KEEP", x.keep(x.state(0, 2, 0)), -2);
        DUE.is("KEEP of SAFE", x.keep(115), 1);
        DUE.is("KEEP of SAFE: an earlier ACT leads down", x.keep(x.state(0, -1, 0)), 1);
        DUE.is("one BEAT, then none", x.fate(x.state(0, 1, 1)), 1);
        DUE.is("KEEP of FATE 1", x.keep(x.state(0, 1, 1)), 1);
    }

    private static void reachAndLead() {
        RopeSchool x = told(DRIFT);
        for (int at = 0; at <= 3; at++) {
            DUE.is("reach at " + at, x.reach(x.state(at, 0, 0)), 3 - at);
            DUE.is("lead at " + at, x.lead(x.state(at, 0, 0)), at == 3 ? -2 : 0);
        }
        DUE.is("reach of one who falls", x.reach(x.state(0, 0, 1)), -2);
        DUE.is("lead of one who falls", x.lead(x.state(0, 0, 1)), -2);
        DUE.is("reach of none", x.reach(117), -1);
        DUE.is("lead of none", x.lead(-7), -1);
        x = told("rope 2; wide 1; fast 1; act stay 0 0; act slow 0 1 if swing == 0; act go 0 1; act bk 0 -1;"
            + "gusts 1 1 0 1 if lean == 1;");
        DUE.is("lead is the first that does", x.lead(115), 1);
        DUE.is("some gust makes one fall", x.reach(x.state(1, 1, 0)), -2);
        x = told("act stay 0 0;");
        DUE.is("SAFE", x.fate(115), -2);
        DUE.is("SAFE without REACH", x.reach(115), -2);
        DUE.is("SAFE without LEAD", x.lead(115), -2);
    }

    private static void safeAndEdge() {
        RopeSchool x = told(DRIFT);
        int[] due = {9, 11, 13, 15};
        for (int at = 0; at < 4; at++) {
            DUE.is("safe " + at, x.safe(at), due[at]);
        }
        DUE.is("count(12)", x.count(12), 48);
        DUE.is("safe -1", x.safe(-1), -1);
        DUE.is("safe 4", x.safe(4), -1);
        DUE.is("safe least", x.safe(Integer.MIN_VALUE), -1);
        DUE.is("safe greatest", x.safe(Integer.MAX_VALUE), -1);
        DUE.is("doom", x.doom(), 2);
        DUE.is("edge", x.edge(0, 1, false), -2);
        DUE.is("edge", x.edge(0, 1, true), -1);
        DUE.is("edge", x.edge(1, 1, true), 0);
        DUE.is("edge", x.edge(2, -1, false), -1);
        DUE.is("edge", x.edge(2, -1, true), 2);
        DUE.is("edge of OVER", x.edge(3, 1, true), 2);
        DUE.is("edge too fast", x.edge(0, 2, true), -100);
        DUE.is("edge too fast", x.edge(0, Integer.MIN_VALUE, true), -100);
        DUE.is("edge nowhere", x.edge(4, 0, true), -100);
        DUE.is("edge nowhere", x.edge(-1, 0, false), -100);
        x = told("wide 1; fast 1; act a 0 0 if 1 == 2;");
        DUE.is("nobody safe", x.safe(0), 0);
        DUE.is("no edge", x.edge(0, 0, true), -100);
        DUE.is("doom 0", x.doom(), 0);
        x = told("wide 1; fast 1; swing 0; lean 0;");
        DUE.is("all safe", x.doom(), -1);
    }

    private static void borne() {
        RopeSchool x = told(DRIFT);
        DUE.is("borne at the start", x.borne(115), 0);
        DUE.is("borne one BEAT ahead of the end", x.borne(x.state(2, 0, 0)), 1);
        DUE.is("borne OVER", x.borne(x.state(3, 0, 0)), 6);
        DUE.is("borne, not SAFE", x.borne(x.state(0, 0, 1)), -2);
        DUE.is("borne of none", x.borne(117), -1);
        x = told("rope 1; wide 10; fast 5; act a 0 0; act b 0 1; swing gust/2; lean lean; gusts 0 0 4 5; gusts 0 0 -1 1 if 5<lean;");
        DUE.is("5 + 6 is 11 and 11 / 2 is 5", x.borne(115), 6);
        DUE.is("gusts are what is widened", x.borne(x.state(0, 6, 0)), 6);
        x = told("rope 1; wide 10; fast 5; act b 0 1; swing gust-3; lean lean; gusts 0 0 4 5; gusts 0 0 -1 -1 if 5<lean;");
        DUE.is("5 + k - 3 up to 5", x.borne(115), 3);
        DUE.is("-1 - k - 3 down to -5", x.borne(x.state(0, 6, 0)), 1);
        x.pole(3);
        DUE.is("another POLE, found anew", x.borne(115), 3);
    }

    private static void poles() {
        RopeSchool x = told("rope 1; wide 1; fast 1; act a 1 1; swing swing+2-push*pole;");
        DUE.is("POLE 1 does", x.poles(115), 1);
        DUE.is("POLE 2 is wanted", x.poles(x.state(0, 1, 0)), 2);
        DUE.is("POLE 3 is wanted", x.poles(x.state(0, 1, 1)), 3);
        DUE.is("OVER", x.poles(x.state(1, 1, 1)), 1);
        DUE.is("none such", x.poles(117), -1);
        DUE.is("the POLE is as it was", x.count(6), 1);
        DUE.is("the BEATS are as they were", x.next(115, 0, 0), x.state(1, 1, 1));
        DUE.is("FATE is as it was", x.fate(x.state(0, 1, 0)), 0);
        x.pole(2);
        DUE.is("whatever the POLE is", x.poles(x.state(0, 1, 1)), 3);
        DUE.is("FATE with POLE 2", x.fate(x.state(0, 1, 0)), -2);
        x = told("rope 1; wide 1; fast 1; act a 0 1 if pole == 4; act b 9 1;");
        DUE.is("COND by POLE", x.poles(115), 4);
        x = told("rope 1; wide 1; fast 1; act b 9 1;");
        DUE.is("with none", x.poles(115), -2);
    }

    public static void main(String[] args) {
        pole();
        state();
        canAndGust();
        condVars();
        next();
        fateAndKeep();
        reachAndLead();
        safeAndEdge();
        borne();
        poles();
        DUE.end();
    }
}
