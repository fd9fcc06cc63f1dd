/** The edges of FORECASTS, KNOWN and BLIND: promises 20 to 25. */
final class RowsEdges {
    /** One gets OVER by the BEAT behind gust 1, and stays up with any gust of -5 .. 5. */
    private static final String WAIT = "rope 1; wide 10; fast 5; act st 0 0; act go 0 1 if swing == 1; "
        + "act gp 0 1 if swing == 1; swing gust; lean 0;";
    private final Book b;

    RowsEdges(Book book) {
        b = book;
    }

    void all() {
        forecast();
        clear();
        known();
        knownAct();
        blind();
        blindAct();
    }

    private void forecast() {
        b.says("Terms", "FORECASTS: gusts that are known ahead (24 at most, -12 .. 12 each), the first for the first "
            + "BEAT, .. .");
        RopeSchool x = b.told("rope 2; wide 10; fast 5; act up 0 1; swing 0; lean lean*3+gust;");
        x.forecast(3);
        x.forecast(1);
        b.is("3 * 3 + 1 is 10", x.known(115), 2);
        x.clear();
        x.forecast(1);
        x.forecast(3);
        b.is("1 * 3 + 3 is 6", x.known(115), 2);
        x.clear();
        x.forecast(3);
        x.forecast(2);
        b.is("3 * 3 + 2 is 11", x.known(115), -2);
        x.clear();
        x.forecast(2);
        x.forecast(3);
        b.is("2 * 3 + 3 is 9", x.known(115), 2);
        x = b.told("rope 2; wide 10; fast 5; act up 0 1; act ub 1 1; swing 0; lean gust*push*pole;");
        b.is("none yet", x.known(115), -2);
        x.forecast(5);
        b.is("one is not enough", x.known(115), -2);
        x.forecast(5);
        b.is("two are", x.known(115), 2);
        x.clear();
        x.forecast(-5);
        x.forecast(11);
        b.is("others", x.knownAct(115, 0) + x.knownAct(115, 1), 0);
        b.says(20, "A FORECAST more: how many there are.");
        x = b.told(WAIT);
        for (int i = 1; i <= 24; i++) {
            int gust = i == 1 ? -12 : i == 2 ? 12 : 0;
            b.is("forecast " + i, x.forecast(gust), i);
            b.is("count(7)", x.count(7), i);
        }
        b.says(20, "NONE, and nothing happens: 24 are there, not -12 .. 12.");
        for (int gust : new int[] {0, 1, -12, 12, 13, -13, Integer.MIN_VALUE}) {
            b.is("a 25th, " + gust, x.forecast(gust), -1);
            b.is("count(7)", x.count(7), 24);
        }
        x.clear();
        for (int gust : Book.beyond(-12, 12)) {
            b.is("forecast " + gust, x.forecast(gust), -1);
            b.is("count(7)", x.count(7), 0);
        }
        b.is("one then", x.forecast(1), 1);
        b.is("refused", x.forecast(13), -1);
        b.is("two then", x.forecast(0), 2);
        b.is("the refused one is not among them", x.known(115), 2);
    }

    private void clear() {
        b.says(21, "FORECASTS are gone.");
        RopeSchool x = b.told(WAIT);
        x.clear();
        b.is("none of none", x.count(7), 0);
        for (int i = 0; i < 24; i++) {
            x.forecast(1);
        }
        b.is("known", x.known(115), 2);
        x.clear();
        b.is("none", x.count(7), 0);
        b.is("known then", x.known(115), -2);
        b.is("knownAct then", x.knownAct(115, 0), -1);
        b.is("a first one again", x.forecast(0), 1);
        for (int i = 2; i <= 24; i++) {
            b.is("and more", x.forecast(0), i);
        }
        b.is("the old ones are not among them", x.known(115), -2);
        x.stand(115);
        x.clear();
        b.is("nothing else goes", x.count(13), 115);
    }

    private void known() {
        b.says("Terms", "KNOWN: the fewest BEATS (no more than FORECASTS) to be OVER if just these come;");
        for (int wait = 0; wait <= 23; wait++) {
            RopeSchool x = b.told(WAIT);
            for (int i = 0; i < wait; i++) {
                x.forecast(i % 3 == 2 ? -5 : 5);
            }
            x.forecast(1);
            b.is("as many FORECASTS as BEATS ahead of the last", x.known(115), -2);
            if (wait < 23) {
                b.is("one more", x.forecast(12), wait + 2);
                b.is("the BEAT behind that is wanted too, but one falls", x.known(115), -2);
                b.is("no FORECAST is wanted when OVER", x.known(Book.number(1, 0, 0)), 0);
            }
            x.clear();
            for (int i = 0; i < wait; i++) {
                x.forecast(i % 3 == 2 ? -5 : 5);
            }
            x.forecast(1);
            if (wait < 23) {
                x.forecast(4);
                b.is("all FORECASTS are wanted, " + (wait + 2), x.known(115), wait + 2);
            }
        }
        RopeSchool x = b.told(RoundsEdges.WAY_OVER);
        for (int i = 0; i < 24; i++) {
            x.forecast(i - 12);
        }
        b.is("24 BEATS", x.known(RoundsEdges.OPEN - 24), 24);
        b.is("25 BEATS", x.known(RoundsEdges.OPEN - 25), -2);
        b.is("1 BEAT", x.known(RoundsEdges.OPEN - 1), 1);
        x = b.told("rope 2; gusts 0 8 1 1; swing gust; lean 0; act up 0 1;");
        x.forecast(-3);
        x.forecast(3);
        b.is("just these, whatever gusts are told", x.known(115), 2);
        x = b.told("rope 4; act st 0 0; act up 0 1; act dn 0 -1; act no 0 1 if 1<1;");
        for (int i = 0; i < 9; i++) {
            x.forecast(0);
        }
        b.is("the fewest", x.known(115), 4);
        b.says(22, "KNOWN;");
        b.is("0: it is OVER", x.known(Book.number(4, 0, 0)), 0);
        b.is("1", x.known(Book.number(3, 0, 0)), 1);
        b.says(22, "-2: it can't be;");
        x.clear();
        b.is("no FORECAST", x.known(115), -2);
        b.is("no FORECAST, but OVER", x.known(Book.number(4, 6, 3)), 0);
        x.forecast(0);
        x.forecast(0);
        x.forecast(0);
        b.is("one too few", x.known(115), -2);
        x = b.told("act a 0 1 if 1<1;");
        x.forecast(0);
        b.is("no ACT CAN be done", x.known(115), -2);
        b.says(22, "NONE: no such STATE.");
        b.justStates("known", "act a 0 0 if lean < 1;", -1, (y, s) -> y.known(s));
    }

    private void knownAct() {
        b.says("Terms", "its ACTS: each the least with which it is so.");
        RopeSchool x = b.told("rope 2; wide 2; fast 2; act up 0 1; act st 0 0; swing gust*at; lean lean;");
        x.forecast(0);
        x.forecast(5);
        x.forecast(0);
        x.forecast(0);
        // up at once would be AT 1 under gust 5
        b.is("known", x.known(115), 3);
        int[] want = {1, 0, 0, -1};
        for (int i = 0; i < want.length; i++) {
            b.is("ACT " + i, x.knownAct(115, i), want[i]);
        }
        x = b.told("rope 2; act a 0 0; act c 1 1; act e 0 1; act f 0 1; wide 2; fast 2; swing 0; lean lean-push*gust;");
        x.forecast(3);
        x.forecast(3);
        b.is("known", x.known(115), 2);
        b.is("the least that does", x.knownAct(115, 0), 2);
        b.is("the least that does", x.knownAct(115, 1), 2);
        x.clear();
        x.forecast(2);
        x.forecast(-2);
        b.is("a first one that does", x.knownAct(115, 0), 1);
        b.is("and a second one", x.knownAct(115, 1), 1);
        x.clear();
        x.forecast(2);
        x.forecast(2);
        // c would lean by -2, then by -4: but e follows
        b.is("the first one goes ahead", x.knownAct(115, 0), 1);
        b.is("the second one follows", x.knownAct(115, 1), 2);
        x = b.told("rope 1; wide 10; fast 5; act a 1 1; act c 0 1; swing 0; lean gust*push*pole;");
        x.forecast(5);
        b.is("POLE 1: 5", x.knownAct(115, 0), 0);
        x.pole(3);
        b.is("POLE 3: 15", x.knownAct(115, 0), 1);
        x.pole(2);
        b.is("POLE 2: 10", x.knownAct(115, 0), 0);
        x = b.told("rope 2; wide 10; act a 1 1; act b 0 1; swing 0; lean lean*gust+push;");
        x.forecast(0);
        x.forecast(1);
        b.is("by lean 1", x.knownAct(115, 0), 0);
        x.clear();
        x.forecast(0);
        x.forecast(12);
        b.is("lean 1 would do no more", x.knownAct(115, 0), 1);
        x = b.told("rope 8; wide 10; fast 5; act a 0 0; act b 0 1; swing swing; lean lean;");
        for (int i = 0; i < 9; i++) {
            x.forecast(0);
        }
        b.is("from STATE 0", x.known(0), 8);
        b.is("from STATE 0", x.knownAct(0, 0), 1);
        b.is("from the last STATE that is not OVER", x.known(RoundsEdges.OPEN - 1), 1);
        x = b.told("rope 1; wide 10; fast 5; act in 0 0 if lean != -10; act up 0 1 if lean == -10; swing -5; "
            + "lean -10;");
        x.forecast(0);
        x.forecast(0);
        b.is("through STATE 0", x.known(115), 2);
        b.is("through STATE 0", x.knownAct(115, 1), 1);
        b.says(23, "The i-th ACT (from 0 on) of KNOWN;");
        x = b.told(RoundsEdges.WAY_OVER);
        for (int i = 0; i < 24; i++) {
            x.forecast(0);
        }
        for (int i = 0; i < 24; i++) {
            b.is("ACT " + i + " of 24", x.knownAct(RoundsEdges.OPEN - 24, i), i == 23 ? 1 : 0);
        }
        b.says(23, "NONE: not so many, no such STATE.");
        for (int i : Book.beyond(0, 23)) {
            b.is("ACT " + i, x.knownAct(RoundsEdges.OPEN - 24, i), -1);
        }
        b.is("ACT 0 of none", x.knownAct(RoundsEdges.OPEN - 25, 0), -1);
        b.is("ACT 0 of 0 BEATS", x.knownAct(RoundsEdges.OPEN, 0), -1);
        b.is("ACT 0 of 1 BEAT", x.knownAct(RoundsEdges.OPEN - 1, 0), 1);
        b.is("ACT 1 of 1 BEAT", x.knownAct(RoundsEdges.OPEN - 1, 1), -1);
        b.is("ACT 0 of no STATE", x.knownAct(-1, 0), -1);
        x = b.told("rope 1; wide 2; fast 2; act st 0 0; act up 0 1; swing 0; lean 0;");
        x.forecast(0);
        for (int n = -12; n < 460; n++) {
            // all STATES AT 0 of that ROPE have a KNOWN of 1
            boolean is = n >= 0 && n < 231 && n / 11 >= 8 && n / 11 <= 12 && n % 11 >= 3 && n % 11 <= 7;
            b.is("knownAct of " + n, x.knownAct(n, 0), is ? 1 : -1);
        }
    }

    private void blind() {
        b.says("Terms", "BLIND: rows of n ACTS (1 .. 4), chosen ahead, with which whatever gusts come nobody falls,"
            + " and each ACT CAN be done in each STATE that may be (who is OVER stays so and does none).");
        for (int fatal = -3; fatal <= 3; fatal++) {
            RopeSchool x = b.told("act a 0 0; act b 1 0; gusts 0 8 -2 2; swing 0; "
                + "lean push*9/(1+(gust-" + fatal + ")*(gust-" + fatal + ")*9);");
            boolean falls = fatal >= -2 && fatal <= 2;
            for (int n = 1; n <= 4; n++) {
                b.is("gust " + fatal + " alone makes b fall, n " + n, x.blind(115, n), falls ? 1 : 1 << n);
            }
        }
        RopeSchool x = b.told("rope 8; act a 0 1 if lean == 0; act b 0 1 if lean == 1; act c 0 1; gusts 0 0 0 1; "
            + "swing 0; lean lean+gust;");
        b.is("one", x.blind(115, 1), 2);
        b.is("lean 0 or 1 then: c alone CAN be done in both", x.blind(115, 2), 2);
        b.is("and on", x.blind(115, 4), 2);
        b.is("AT 1 lean is known", x.blind(346, 2), 4);
        x = b.told("rope 2; wide 10; fast 5; act a 0 1; act b 0 0 if at == 0; act c 9 0; gusts 0 0 0 1; swing 0; "
            + "lean push*99;");
        b.is("a, b", x.blind(115, 1), 2);
        b.is("a a, b a, b b; AT 1 b can't be done", x.blind(115, 2), 3);
        b.is("a a and any, b a a, b b a, b b b", x.blind(115, 3), 3 + 3);
        b.is("a a and any two, b a a and any, b b and three", x.blind(115, 4), 9 + 3 + 3);
        b.is("OVER", x.blind(Book.number(2, 0, 0), 4), 81);
        b.is("OVER", x.blind(Book.number(2, 10, 5), 1), 3);
        x = b.told("rope 1; wide 10; fast 5; act up 0 1 if lean < 1; act st 0 0 if lean == 0; act s 0 0; "
            + "gusts 0 0 0 1 if lean == 0; swing 0; lean lean+gust;");
        b.is("some are OVER, some are not: all that may be do", x.blind(115, 2), 3 + 1 + 1);
        x = b.told("rope 8; wide 10; fast 5; act a 0 0 if lean < 3; swing 0; lean lean+(gust+6)/12; gusts 0 8 -6 6;");
        b.is("three", x.blind(115, 3), 1);
        b.is("of 2,197 rows of gusts the last alone leads to where the ACT can't be done", x.blind(115, 4), 0);
        x = b.told("rope 1; wide 10; fast 5; act in 0 0 if lean != -10; act up 0 1 if lean == -10; swing -5; "
            + "lean -10;");
        b.is("through STATE 0", x.blind(115, 2), 1);
        b.is("from STATE 0", x.blind(0, 1), 1);
        b.is("from the last STATE that is not OVER", x.blind(230, 2), 1);
        b.says(24, "How many rows there are, BLIND;");
        b.is("none", b.told("swing 9;").blind(115, 1), 0);
        b.is("no ACT CAN be done", b.told("act a 0 0 if 1<1;").blind(115, 4), 0);
        b.is("all", b.told("act a 0 0; act b 0 0; act c 0 0; act d 0 0; act e 0 0; act f 0 0;").blind(115, 4), 1296);
        b.is("all, n 1", b.told("act a 0 0; act b 0 0; act c 0 0; act d 0 0; act e 0 0; act f 0 0;").blind(115, 1), 6);
        b.is("all gusts lead elsewhere", b.told("wide 10; fast 5; act a 0 0; swing gust*5/6; lean gust*3/2; "
            + "gusts 0 8 -6 6;").blind(115, 4), 1);
        b.says(24, "NONE: no such STATE, n.");
        x = b.told("act a 0 0;");
        for (int n : Book.beyond(1, 4)) {
            b.is("n " + n, x.blind(115, n), -1);
            b.is("OVER, n " + n, x.blind(Book.number(4, 0, 0), n), -1);
            b.is("blindAct, n " + n, x.blindAct(115, n, 0), -1);
        }
        b.justStates("blind", "act a 0 0 if lean < 1;", -1, (y, s) -> y.blind(s, 1));
        b.justStates("blind", "act a 0 0 if lean < 1;", -1, (y, s) -> y.blind(s, 4));
    }

    private void blindAct() {
        b.says(25, "The i-th ACT of the first such row (by its first ACT, then the second one, ..);");
        RopeSchool x = b.told("rope 8; act a 0 0 if at == 3; act b 0 0 if at == 2; act c 0 1 if at != 4; act d 0 1;");
        // from AT 0: c c b b; the first ACT that goes on, each time
        int[] want = {2, 2, 1, 1};
        for (int i = 0; i < 4; i++) {
            b.is("ACT " + i, x.blindAct(115, 4, i), want[i]);
        }
        x = b.told("rope 8; act a 0 1; act b 0 0 if at == 0; act c 9 0 if at == 1; swing 0; lean push*99;");
        b.is("a first ACT with which no row goes on is passed over", x.blindAct(115, 2, 0), 0);
        x = b.told("rope 8; act a 0 1 if at == 0; act b 0 0 if at == 0; act c 9 0 if at == 1; swing 0; lean push*99;");
        int[] back = {1, 1, 1, 0};
        for (int i = 0; i < 4; i++) {
            b.is("ACT " + i, x.blindAct(115, 4, i), back[i]);
            b.is("OVER, ACT " + i, x.blindAct(Book.number(8, 0, 0), 4, i), 0);
        }
        b.is("one ACT", x.blindAct(115, 1, 0), 0);
        b.says(25, "NONE: there is none, no such ones.");
        b.is("there is none", x.blindAct(346, 1, 0), -1);
        b.is("there is none of two", b.told("act a 0 0 if lean == 0; swing 0; lean 1;").blindAct(115, 2, 0), -1);
        b.is("though there is one of one", b.told("act a 0 0 if lean == 0; swing 0; lean 1;").blindAct(115, 1, 0), 0);
        for (int n = 1; n <= 4; n++) {
            for (int i : Book.beyond(0, n - 1)) {
                b.is("ACT " + i + " of " + n, x.blindAct(115, n, i), -1);
                b.is("OVER, ACT " + i + " of " + n, x.blindAct(Book.number(8, 0, 0), n, i), -1);
            }
            b.is("the last ACT of " + n, x.blindAct(115, n, n - 1), 0);
        }
        for (int n : Book.beyond(1, 4)) {
            b.is("n " + n, x.blindAct(115, n, 0), -1);
            b.is("n " + n + " and i", x.blindAct(115, n, n), -1);
        }
        b.justStates("blindAct", "act a 0 0; swing 0; lean 0;", -1, (y, s) -> y.blindAct(s, 4, 3));
    }
}
