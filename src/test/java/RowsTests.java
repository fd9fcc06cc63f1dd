/** Promises 20 to 25: FORECASTS, KNOWN, BLIND. */
public final class RowsTests {
    private static final Due DUE = new Due();
    private static final String STEER =
        "rope 2; wide 1; fast 1; act l 1 1; act r -1 1; act go 0 1 if lean == 0; act wait 0 0; gusts 0 2 -1 1 if at == 1;";

    private static RopeSchool told(String text) {
        RopeSchool x = new RopeSchool();
        DUE.is("read of " + text, Due.read(x, text), 0);
        return x;
    }

    private static void forecasts() {
        RopeSchool x = told(STEER);
        DUE.is("forecast 13", x.forecast(13), -1);
        DUE.is("forecast -13", x.forecast(-13), -1);
        DUE.is("forecast least", x.forecast(Integer.MIN_VALUE), -1);
        for (int i = 1; i <= 24; i++) {
            DUE.is("forecast " + i, x.forecast(i % 2 == 0 ? 12 : -12), i);
        }
        DUE.is("a 25th", x.forecast(0), -1);
        DUE.is("count(7)", x.count(7), 24);
        x.clear();
        DUE.is("count(7) after clear", x.count(7), 0);
        DUE.is("forecast after clear", x.forecast(0), 1);
        x.clear();
        x.clear();
        DUE.is("clear of none", x.count(7), 0);
        x.forecast(0);
        x.pole(2);
        DUE.is("FORECASTS stay with a POLE", x.count(7), 1);
        Due.read(x, STEER);
        DUE.is("but not with a text", x.count(7), 0);
    }

    private static void known() {
        RopeSchool x = told(STEER);
        DUE.is("known without FORECASTS", x.known(115), -2);
        DUE.is("known OVER", x.known(x.state(2, 0, 0)), 0);
        DUE.is("knownAct OVER", x.knownAct(x.state(2, 0, 0), 0), -1);
        x.forecast(1);
        DUE.is("known with one FORECAST", x.known(115), -2);
        DUE.is("knownAct then", x.knownAct(115, 0), -1);
        DUE.is("one place on, one is enough", x.known(x.state(1, 0, 0)), 1);
        x.forecast(-1);
        DUE.is("known with two", x.known(115), 2);
        // gust 1 and l: swing 0, lean 0; then gust -1: l would swing by -2, r stays at 0
        DUE.is("first ACT", x.knownAct(115, 0), 0);
        DUE.is("second ACT", x.knownAct(115, 1), 1);
        DUE.is("no third ACT", x.knownAct(115, 2), -1);
        DUE.is("no ACT -1", x.knownAct(115, -1), -1);
        DUE.is("no ACT by far", x.knownAct(115, Integer.MAX_VALUE), -1);
        DUE.is("known of none", x.known(117), -1);
        DUE.is("knownAct of none", x.knownAct(-1, 0), -1);
        x.forecast(0);
        DUE.is("no more than the fewest", x.known(115), 2);
        x.pole(2);
        // gust 1, POLE 2: l swings by -1, to lean -1; then gust -1: r swings by -1-1+2 = 0, lean stays -1
        DUE.is("POLE 2", x.known(115), 2);
        DUE.is("POLE 2, first ACT", x.knownAct(115, 0), 0);
        DUE.is("POLE 2, second ACT", x.knownAct(115, 1), 1);
        x = told("rope 1; wide 1; fast 1; act no 0 0; act nn 0 0; act go 0 1 if swing == 1;");
        x.forecast(0);
        x.forecast(0);
        x.forecast(1);
        DUE.is("never in time", x.known(115), -2);
        x.forecast(-1);
        DUE.is("waits for the gust", x.known(115), 4);
        for (int i = 0; i < 3; i++) {
            DUE.is("waits by the least ACT", x.knownAct(115, i), 0);
        }
        DUE.is("then goes", x.knownAct(115, 3), 2);
        x.clear();
        DUE.is("known after clear", x.known(115), -2);
    }

    private static void blind() {
        RopeSchool x = told(STEER);
        // AT 0 there is no gust: l, r, go or wait; AT 1 from lean 0 swing 0 only go does not fall (l and r may swing by 2)
        DUE.is("blind 1", x.blind(115, 1), 4);
        DUE.is("blind 2", x.blind(115, 2), rowsOfTwo(x));
        DUE.is("blindAct", x.blindAct(115, 1, 0), 0);
        DUE.is("blind 0", x.blind(115, 0), -1);
        DUE.is("blind 5", x.blind(115, 5), -1);
        DUE.is("blind of none", x.blind(117, 1), -1);
        DUE.is("blindAct of none", x.blindAct(117, 1, 0), -1);
        DUE.is("blindAct 0 ACTS", x.blindAct(115, 0, 0), -1);
        DUE.is("blindAct 5 ACTS", x.blindAct(115, 5, 0), -1);
        DUE.is("blindAct -1", x.blindAct(115, 2, -1), -1);
        DUE.is("blindAct 2 of 2", x.blindAct(115, 2, 2), -1);
        DUE.is("OVER does anything", x.blind(x.state(2, 0, 0), 3), 64);
        DUE.is("OVER, the first row", x.blindAct(x.state(2, 0, 0), 3, 2), 0);
        x = told("rope 2; wide 2; fast 2; act a 0 1 if lean == 0; act b 0 1 if 0 < lean; act c 0 1; gusts 0 0 0 1;");
        DUE.is("an ACT must do in each STATE that may be", x.blind(115, 2), 2);
        DUE.is("the first row", x.blindAct(115, 2, 0), 0);
        DUE.is("the first row", x.blindAct(115, 2, 1), 2);
        x = told("rope 2; wide 2; fast 2; act c 0 1; act d 0 1 if 1 == 2; act a 0 1 if lean < 2; gusts 0 1 0 1;");
        DUE.is("who falls does not count", x.blind(x.state(0, 2, 0), 1), 0);
        DUE.is("nor has a first row", x.blindAct(x.state(0, 2, 0), 1, 0), -1);
        x = told("rope 1; wide 2; fast 2; act s 0 0 if at == 0; act t 0 1; gusts 0 0 0 0;");
        DUE.is("OVER does none, whatever its COND", x.blind(115, 3), 8);
    }

    /** BLIND rows of two by hand: by next, can and gust alone. */
    private static int rowsOfTwo(RopeSchool x) {
        int found = 0;
        for (int a = 0; a < x.count(3); a++) {
            for (int b = 0; b < x.count(3); b++) {
                boolean good = true;
                for (int g = x.gust(115, false); g <= x.gust(115, true); g++) {
                    int s = x.next(115, a, g);
                    good = good && s >= 0;
                    for (int h = s < 0 ? 1 : x.gust(s, false); good && s / 231 < x.count(0) && h <= x.gust(s, true); h++) {
                        good = x.next(s, b, h) >= 0;
                    }
                }
                found += good ? 1 : 0;
            }
        }
        return found;
    }

    public static void main(String[] args) {
        forecasts();
        known();
        blind();
        DUE.end();
    }
}
