/** Promises 34 to 38 and 40 to 42: WALKS, BLAME, SLOTS, count. */
public final class WalkTests {
    private static final Due DUE = new Due();
    private static final int STATE = -1000;
    private static final int ARGUMENT = -2000;
    private static final String STEER = "rope 2; wide 2; fast 2; act st 0 0; act l 1 1 if at != 1 or lean != 0;"
        + "act r -1 1; act up 0 1; gusts 0 1 0 1;";

    private static RopeSchool told(String text) {
        RopeSchool x = new RopeSchool();
        DUE.is("read of " + text, Due.read(x, text), 0);
        return x;
    }

    private static void noWalk() {
        RopeSchool x = told(STEER);
        DUE.is("beat without a WALK", Due.beat(x, 0, 0), STATE);
        DUE.is("and without an ACT", Due.beat(x, 9, 9), STATE);
        DUE.is("undo without a WALK", x.undo(), false);
        DUE.is("walked without a WALK", x.walked(0, 0), -100);
        DUE.is("blame without a WALK", x.blame(), -1);
        DUE.is("count(9) without a WALK", x.count(9), -1);
        DUE.is("count(13) without a WALK", x.count(13), -1);
        DUE.is("stand nowhere", x.stand(118), false);
        DUE.is("stand nowhere", x.stand(-1), false);
        DUE.is("stand nowhere", x.stand(2079), false);
        DUE.is("still no WALK", x.count(9), -1);
    }

    private static void walks() {
        RopeSchool x = told(STEER);
        DUE.is("stand", x.stand(115), true);
        DUE.is("BEATS", x.count(9), 0);
        DUE.is("stands", x.count(13), 115);
        DUE.is("walked 0 of none", x.walked(0, 0), -100);
        DUE.is("blame of none", x.blame(), -2);
        DUE.is("undo of none", x.undo(), false);
        DUE.is("no such ACT", Due.beat(x, 4, 0), ARGUMENT);
        DUE.is("no such ACT", Due.beat(x, -1, 0), ARGUMENT);
        DUE.is("no gust of it", Due.beat(x, 3, 2), ARGUMENT);
        DUE.is("no gust of it", Due.beat(x, 3, -1), ARGUMENT);
        DUE.is("nothing came of it", x.count(9), 0);
        DUE.is("beat", Due.beat(x, 3, 0), x.state(1, 0, 0));
        DUE.is("can't be done there", Due.beat(x, 1, 0), ARGUMENT);
        DUE.is("beat", Due.beat(x, 0, 1), x.state(1, 1, 1));
        DUE.is("beat", Due.beat(x, 1, 1), x.state(2, 2, 1));
        DUE.is("OVER", Due.beat(x, 0, 0), STATE);
        DUE.is("OVER goes ahead of no ACT", Due.beat(x, 9, 0), STATE);
        int[][] due = {{115, 3, 0, x.state(1, 0, 0)}, {x.state(1, 0, 0), 0, 1, x.state(1, 1, 1)},
            {x.state(1, 1, 1), 1, 1, x.state(2, 2, 1)}};
        for (int i = 0; i < 3; i++) {
            for (int what = 0; what < 4; what++) {
                DUE.is("walked " + i + " " + what, x.walked(i, what), due[i][what]);
            }
        }
        DUE.is("walked 3", x.walked(3, 0), -100);
        DUE.is("walked -1", x.walked(-1, 0), -100);
        DUE.is("walked what 4", x.walked(0, 4), -100);
        DUE.is("walked what -1", x.walked(0, -1), -100);
        DUE.is("undo", x.undo(), true);
        DUE.is("stands again", x.count(13), x.state(1, 1, 1));
        DUE.is("BEATS again", x.count(9), 2);
        DUE.is("walked 2 is gone", x.walked(2, 0), -100);
        DUE.is("falls", Due.beat(x, 0, 1), -2);
        DUE.is("stands no more", x.count(13), -2);
        DUE.is("walked 2 behind", x.walked(2, 3), -2);
        DUE.is("fallen", Due.beat(x, 0, 0), STATE);
        DUE.is("undo of a fall", x.undo(), true);
        DUE.is("stands again", x.count(13), x.state(1, 1, 1));
        DUE.is("another WALK nowhere", x.stand(-1), false);
        DUE.is("the WALK is still there", x.count(9), 2);
        DUE.is("another WALK", x.stand(x.state(2, 0, 0)), true);
        DUE.is("its BEATS", x.count(9), 0);
        DUE.is("it is OVER", Due.beat(x, 0, 0), STATE);
        DUE.is("no blame", x.blame(), -2);
    }

    private static void twoHundred() {
        RopeSchool x = told("act a 0 0;");
        x.stand(115);
        for (int i = 0; i < 200; i++) {
            DUE.is("beat " + i, Due.beat(x, 0, 0), 115);
        }
        DUE.is("a 201st", Due.beat(x, 0, 0), STATE);
        DUE.is("count(9)", x.count(9), 200);
        DUE.is("walked 199", x.walked(199, 3), 115);
        DUE.is("walked 200", x.walked(200, 0), -100);
        DUE.is("undo", x.undo(), true);
        DUE.is("a 200th again", Due.beat(x, 0, 0), 115);
        DUE.is("a 201st again", Due.beat(x, 9, 9), STATE);
    }

    private static void blame() {
        RopeSchool x = told("rope 2; wide 2; fast 2; act l 1 0; act r -1 0; act go 0 1; gusts 0 1 0 1;");
        int s = x.state(0, 0, 0);
        DUE.is("SAFE", x.fate(s), -2);
        x.stand(s);
        int beats = 0;
        int first = -2;
        int[][] told = {{0, 0}, {2, 0}, {0, 0}, {0, 0}, {0, 1}};
        for (int[] t : told) {
            int from = x.count(13);
            boolean safe = from >= 0 && x.fate(from) == -2;
            boolean safeAct = true;
            for (int g = 0; g <= 1 && from >= 0; g++) {
                int to = x.next(from, t[0], g);
                safeAct = safeAct && to >= 0 && x.fate(to) == -2;
            }
            if (Due.beat(x, t[0], t[1]) != STATE) {
                first = first == -2 && safe && !safeAct ? beats : first;
                beats++;
            }
            DUE.is("blame after " + beats, x.blame(), first);
        }
        DUE.is("the third BEAT was to blame", first, 2);
        x = told("rope 1; wide 1; fast 1; act st 0 0; act l 1 0; gusts 0 0 0 1 if lean == 1;");
        x.stand(x.state(0, 1, 0));
        DUE.is("not SAFE: no blame", x.blame(), -2);
        DUE.is("falls", Due.beat(x, 0, 1), -2);
        DUE.is("from where it was not SAFE: no blame", x.blame(), x.fate(x.state(0, 1, 0)) == -2 ? 0 : -2);
    }

    private static void slots() {
        RopeSchool x = told("rope 1; wide 1; fast 1;");
        DUE.is("hold -1", x.hold(-1), -1);
        DUE.is("hold 3", x.hold(3), -1);
        DUE.is("hold 1", x.hold(1), 16);
        for (int slot = 0; slot < 3; slot++) {
            DUE.is("both, slot " + slot, x.compare(slot, 0), slot == 1 ? 16 : 0);
            DUE.is("now alone, slot " + slot, x.compare(slot, 1), slot == 1 ? 0 : 16);
            DUE.is("then alone, slot " + slot, x.compare(slot, 2), 0);
        }
        DUE.is("a new text", Due.read(x, "rope 1; wide 2; fast 1; act a 0 0 if lean == 1; act b 0 1 if 2 < lean;"), 0);
        // AT 0 only lean 1 swing 0 is SAFE, AT 1 all 15; then: 9 AT 1, 7 AT 0, (0, 1, 0) among them
        DUE.is("SAFE now", x.count(12), 16);
        DUE.is("both", x.compare(1, 0), 9 + 1);
        DUE.is("now alone", x.compare(1, 1), 6);
        DUE.is("then alone", x.compare(1, 2), 6);
        DUE.is("hold 0", x.hold(0), 16);
        DUE.is("hold 2", x.hold(2), 16);
        DUE.is("hold 1 anew", x.hold(1), 16);
        DUE.is("the same then", x.compare(1, 1), 0);
        DUE.is("compare slot 3", x.compare(3, 0), -1);
        DUE.is("compare slot -1", x.compare(-1, 0), -1);
        DUE.is("compare what 3", x.compare(0, 3), -1);
        DUE.is("compare what -1", x.compare(0, -1), -1);
        x.pole(2);
        DUE.is("POLES are compared", x.compare(1, 0), 16);
    }

    private static void count() {
        RopeSchool x = told("rope 3; wide 4; fast 2; act a 0 0; act b 0 1; gusts 0 0 0 0; gusts 1 1 0 0; gusts 2 2 0 0;"
            + "reflex 1 == 1 do a; reflex 1 == 1 do b; reflex 1 == 1 do a; reflex 1 == 1 do b;");
        x.forecast(1);
        x.pole(3);
        x.stand(115);
        Due.beat(x, 1, 0);
        x.feed(0, 0, 0, 0, 0);
        int[] due = {3, 4, 2, 2, 3, 4, 3, 1, 0, 1, 20, 4 * 9 * 5};
        for (int i = 0; i < due.length; i++) {
            DUE.is("count(" + i + ")", x.count(i), due[i]);
        }
        DUE.is("count(12)", x.count(12), x.safe(0) + x.safe(1) + x.safe(2) + x.safe(3));
        DUE.is("count(13)", x.count(13), x.state(1, 0, 0));
        for (int what : new int[] {-1, 14, Integer.MIN_VALUE, Integer.MAX_VALUE}) {
            DUE.is("count(" + what + ")", x.count(what), -1);
        }
    }

    public static void main(String[] args) {
        noWalk();
        walks();
        twoHundred();
        blame();
        slots();
        count();
        DUE.end();
    }
}
