/** The edges of REFLEXES: PROOF, ARRIVES, ODDS, LEARNING, DRILLS; promises 26 to 33 and 39. */
final class ReflexEdges {
    private static final int OPEN = RoundsEdges.OPEN;
    /** By the first ACT one falls, by the second one never; all STATES are SAFE, and none is LEARNED twice. */
    private static final String LESSONS = "rope 8; wide 10; fast 5; act bad 9 0; act good 0 1; swing push*9; "
        + "lean lean;";
    private final Book b;

    ReflexEdges(Book book) {
        b = book;
    }

    void all() {
        reflex();
        proof();
        witness();
        arrives();
        odds();
        oddsOfStateZero();
        oddsOfMany();
        learn();
        learnForty();
        learned();
        lots();
        drill();
        drillBounds();
    }

    /** A law by which just one gust makes one fall (9 / 1), the others not (9 / 10 and less). */
    private static String fatal(int gust) {
        return "lean 9/(1+(gust-" + gust + ")*(gust-" + gust + ")*9); swing 0;";
    }

    private void reflex() {
        b.says("Terms", "REFLEXES: in a STATE that is LEARNED its ACT; "
            + "else the ACT of the first reflex whose COND holds and whose ACT CAN be done;"
            + " else the first ACT that CAN be done (none: the walker FALLS at that BEAT, whatever gust comes).");
        RopeSchool x = b.told("act n 0 0 if lean != 0; act a 0 0; act b 0 0; act c 0 0 if lean != 1;"
            + "reflex lean == 1 do c; reflex 0 < lean do b; reflex lean == 2 do a; reflex lean == -1 do n;");
        b.is("no reflex: the first ACT that CAN be done", x.reflex(115), 1);
        b.is("the first reflex holds, but c can't be done", x.reflex(126), 2);
        b.is("the second one, though the third one holds too", x.reflex(137), 2);
        b.is("the last one", x.reflex(104), 0);
        b.is("no reflex, the first ACT CAN be done", x.reflex(93), 0);
        x = b.told("act a 0 0; act b 0 0;" + "reflex lean == 5 do a;".repeat(11) + "reflex 1 == 1 do b;");
        b.is("the twelfth", x.reflex(115), 1);
        b.is("ahead of it", x.reflex(Book.number(0, 5, 0)), 0);
        x = b.told("rope 4; act a 0 1 if at == 0; act b 0 0 if at == 0; reflex 1 == 1 do a;");
        b.is("not LEARNED", x.reflex(115), 0);
        x.learn(115);
        b.is("LEARNED", x.reflex(115), 1);
        b.is("LEARNED, so it does not fall", x.proof(115) + x.odds(115, 5, 0) + x.drill(115, 0, 5, 5, 0), 0);
        x.forget();
        b.is("forgotten", x.reflex(115), 0);
        x = b.told("act a 0 0 if lean != 0; gusts 0 8 -2 3;");
        b.is("no ACT CAN be done: falls at that BEAT", x.proof(115), 1);
        b.is("whatever gust comes: the least", x.witness(115, 0), -2);
        b.is("whatever gust comes: all six rows", x.odds(115, 1, 0), 6);
        b.is("whatever gust comes: all", x.drill(115, 0, 100, 1, 0), 100);
        b.is("at that BEAT, not ahead of it", x.drill(115, 0, 100, 0, 0) + x.odds(115, 0, 0), 0);
        b.says(26, "The ACT by REFLEXES;");
        b.is("the first of all", x.reflex(126), 0);
        b.is("the sixth", b.told("act a 0 0; act b 0 0; act c 0 0; act d 0 0; act e 0 0; act f 0 0; "
            + "reflex 1<2 do f;").reflex(115), 5);
        b.says(26, "-2: none CAN be done, it is OVER;");
        b.is("none CAN be done", x.reflex(115), -2);
        b.is("none, though a COND holds", b.told("act a 0 0 if 1<1; reflex 1<2 do a;").reflex(115), -2);
        b.is("OVER", x.reflex(Book.number(4, 1, 0)), -2);
        b.is("OVER, though a COND holds", b.told("act a 0 0; reflex 1<2 do a;").reflex(Book.number(4, 0, 0)), -2);
        b.says(26, "NONE: no such STATE.");
        b.justStates("reflex", "act a 0 0 if lean < 1;", -1, (y, s) -> y.reflex(s));
    }

    private void proof() {
        b.says("Terms", "PROOF from a STATE: the fewest BEATS with which the walker can fall by REFLEXES;");
        RopeSchool x = b.told(RoundsEdges.WAY_DOWN);
        for (int s = 0; s < OPEN; s += s < 1840 ? 92 : 1) {
            b.is("proof of " + s, x.proof(s), OPEN - s);
        }
        x = b.told("wide 2; act a 0 0; swing 0; lean lean+gust; gusts 0 8 -1 1;");
        int[] want = {1, 2, 3, 2, 1};
        for (int lean = -2; lean <= 2; lean++) {
            b.is("the nearer side, lean " + lean, x.proof(Book.number(0, lean, 0)), want[lean + 2]);
        }
        b.says(27, "PROOF's BEATS;");
        b.is("1", b.told("swing 9;").proof(115), 1);
        b.is("the most", b.told(RoundsEdges.WAY_DOWN).proof(0), OPEN);
        b.says(27, "0: the walker never falls;");
        b.is("OVER at last", b.told(RoundsEdges.WAY_OVER).proof(0), 0);
        b.is("OVER", x.proof(Book.number(4, 2, 3)), 0);
        b.is("round and round", b.told("act a 0 0;").proof(115), 0);
        for (int g = -3; g <= 3; g++) {
            RopeSchool y = b.told("act a 0 0; gusts 0 8 -2 2;" + fatal(g));
            b.is("gust " + g + " alone is fatal", y.proof(115), g >= -2 && g <= 2 ? 1 : 0);
        }
        b.says(27, "NONE: no such STATE.");
        b.justStates("proof", "act a 0 0 if lean < 1;", -1, (y, s) -> y.proof(s));
    }

    private void witness() {
        b.says("Terms", "the WITNESS: gusts, one for each of these, with which it is so: the least first one, then "
            + "the least second one, .. .");
        RopeSchool x = b.told("wide 2; act a 0 0; swing 0; lean lean+gust; gusts 0 8 -1 1;");
        int[][] want = {{-1}, {-1, -1}, {-1, -1, -1}, {1, 1}, {1}};
        for (int lean = -2; lean <= 2; lean++) {
            int[] row = want[lean + 2];
            for (int i = 0; i <= row.length; i++) {
                int due = i < row.length ? row[i] : -100;
                b.is("lean " + lean + ", gust " + i, x.witness(Book.number(0, lean, 0), i), due);
            }
        }
        // AT 1 one falls; which gusts there are there hangs on the first one
        String hang = "rope 4; wide 6; act up 0 1; swing 0; lean gust+at*11; gusts 0 0 -1 1; gusts 1 1 0 0;"
            + "gusts 1 1 -1 -1 if lean == 0; gusts 1 1 ";
        x = b.told(hang + "1 1 if lean == -1;");
        b.is("the first one goes ahead", x.witness(115, 0), -1);
        b.is("whatever the second one is", x.witness(115, 1), 1);
        x = b.told(hang + "0 1 if lean == -1;");
        b.is("the first one", x.witness(115, 0), -1);
        b.is("the least second one", x.witness(115, 1), 0);
        x = b.told("rope 8; wide 10; act up 0 1; swing 0; lean at*3; gusts 0 0 -1 -1; gusts 1 1 2 2; gusts 2 2 5 5; "
            + "gusts 3 3 -6 6; gusts 4 4 1 1;");
        int[] each = {-1, 2, 5, -6, 1, -100};
        for (int i = 0; i < each.length; i++) {
            b.is("one for each BEAT, " + i, x.witness(115, i), each[i]);
        }
        x = b.told("rope 1; wide 10; fast 5; act in 0 0 if lean != -9; swing -5; lean -10+lean/-10; "
            + "gusts 0 0 2 2 if lean == -10;");
        int[] through = {0, 2, 0, -100};
        for (int i = 0; i < through.length; i++) {
            b.is("through STATE 0, " + i, x.witness(115, i), through[i]);
        }
        b.is("from STATE 0", x.witness(0, 0), 2);
        b.says(28, "The i-th gust of the WITNESS;");
        x = b.told(RoundsEdges.WAY_DOWN + "gusts 0 8 -6 6; gusts 7 7 6 6 if lean == 10 and swing == 5;");
        b.is("the first", x.witness(0, 0), -6);
        b.is("the last", x.witness(0, OPEN - 1), 6);
        b.is("the last but one", x.witness(0, OPEN - 2), -6);
        for (int g = -2; g <= 2; g++) {
            b.is("gust " + g + " alone is fatal", b.told("act a 0 0; gusts 0 8 -2 2;" + fatal(g)).witness(115, 0), g);
        }
        b.says(28, "-100: not so many, no such STATE.");
        for (int i : Book.beyond(0, OPEN - 1)) {
            b.is("gust " + i, x.witness(0, i), -100);
        }
        b.is("OVER", x.witness(OPEN, 0), -100);
        b.is("one who never falls", b.told("act a 0 0;").witness(115, 0), -100);
        b.justStates("witness", "gusts 0 8 -6 6; act a 0 0 if 1<1;",
            -100, (y, s) -> s >= 0 && y.count(0) == s / 231 ? never(y, s) : y.witness(s, 0));
    }

    /** Those that are OVER have no WITNESS, but if they are STATES they have a PROOF of 0. */
    private long never(RopeSchool x, int s) {
        long gust = x.witness(s, 0);
        return x.proof(s) == 0 && gust == -100 ? 0 : gust;
    }

    private void arrives() {
        b.says("Terms", "ARRIVES: the most BEATS until the walker is OVER by REFLEXES, if it can't be otherwise.");
        RopeSchool x = b.told(RoundsEdges.WAY_OVER);
        for (int s = 0; s < OPEN; s += s < 1840 ? 92 : 1) {
            b.is("arrives of " + s, x.arrives(s), OPEN - s);
        }
        x = b.told("rope 4; act up 0 1 if lean == 0; act st 0 0 if lean == 1; gusts 1 1 0 1; swing 0; lean gust;");
        b.is("the most, from AT 0", x.arrives(115), 5);
        b.is("the most, from AT 1", x.arrives(346), 4);
        b.is("AT 1 one may rest for ever", x.arrives(Book.number(1, 1, 0)), -2);
        b.is("AT 2 one rests once", x.arrives(Book.number(2, 1, 0)), 3);
        x = b.told("rope 2; act st 0 0; act up 0 1; swing 0; lean lean; reflex lean == 1 do up; reflex at == 1 do up;");
        b.is("one could get OVER, but not by REFLEXES", x.arrives(115), -2);
        b.is("AT 1", x.arrives(346), 1);
        b.is("lean 1", x.arrives(126), 2);
        for (int slow = -2; slow <= 2; slow++) {
            x = b.told("rope 4; act up 0 1 if lean != " + slow + "; act st 0 0; gusts 0 0 -2 2; swing 0; lean gust;");
            b.is("gust " + slow + " alone makes one rest",
                x.arrives(Book.number(0, slow == 2 ? 1 : 2, 0)), slow == 0 ? -2 : 5);
        }
        x = b.told("rope 1; wide 10; fast 5; act in 0 0 if lean != -10; act up 0 1 if lean == -10; swing -5; "
            + "lean -10;");
        b.is("through STATE 0", x.arrives(115), 2);
        b.is("from STATE 0", x.arrives(0), 1);
        b.says(29, "ARRIVES;");
        b.is("OVER", x.arrives(Book.number(1, 0, 0)), 0);
        b.is("the most of all", b.told(RoundsEdges.WAY_OVER).arrives(0), OPEN);
        b.says(29, "-2: it may be otherwise;");
        b.is("one falls at last", b.told(RoundsEdges.WAY_DOWN).arrives(0), -2);
        b.is("one stays for ever", b.told("act a 0 0;").arrives(115), -2);
        b.is("no ACT CAN be done", b.told("act a 0 0 if 1<1;").arrives(115), -2);
        for (int g = -3; g <= 3; g++) {
            x = b.told("rope 1; act up 0 1; gusts 0 8 -2 2;" + fatal(g));
            b.is("gust " + g + " alone is fatal", x.arrives(115), g >= -2 && g <= 2 ? -2 : 1);
        }
        b.says(29, "NONE: no such STATE.");
        b.justStates("arrives", "act a 0 0 if lean < 1;", -1, (y, s) -> y.arrives(s));
    }

    private void odds() {
        b.says("Terms", "ODDS in n BEATS (0 .. 12): of all rows of gusts that may come by REFLEXES (a row ends with a "
            + "fall, when OVER, and with n)"
            + " how many end with a fall, OVER, at all.");
        RopeSchool x = b.told("rope 1; act st 0 0; act up 0 1; swing 0; lean gust; gusts 0 0 0 1; "
            + "reflex lean == 1 do up;");
        // 0 .. 0, or 0 .. 0 1 and then either gust
        for (int n = 0; n <= 12; n++) {
            b.is("fall in " + n, x.odds(115, n, 0), 0);
            b.is("OVER in " + n, x.odds(115, n, 1), n == 0 ? 0 : 2 * (n - 1));
            b.is("all in " + n, x.odds(115, n, 2), n == 0 ? 1 : 2 * n);
        }
        for (int m = 1; m <= 13; m++) {
            x = b.told("act a 0 0; gusts 0 8 -6 " + (m - 7) + ";" + fatal(-6));
            long fell = 0;
            long open = 1;
            for (int n = 0; n <= 12; n++) {
                b.is(m + " gusts, fall in " + n, x.odds(115, n, 0), fell);
                b.is(m + " gusts, OVER in " + n, x.odds(115, n, 1), 0);
                b.is(m + " gusts, all in " + n, x.odds(115, n, 2), fell + open);
                fell += open;
                open *= m - 1;
            }
        }
        x = b.told(RoundsEdges.WAY_DOWN);
        b.is("a fall by the 12th BEAT", x.odds(OPEN - 12, 12, 0), 1);
        b.is("a fall by the 13th BEAT", x.odds(OPEN - 13, 12, 0), 0);
        b.is("a fall by the 12th BEAT of 11", x.odds(OPEN - 12, 11, 0), 0);
        x = b.told(RoundsEdges.WAY_OVER);
        b.is("OVER by the 12th BEAT", x.odds(OPEN - 12, 12, 1), 1);
        b.is("OVER by the 13th BEAT", x.odds(OPEN - 13, 12, 1), 0);
    }

    private void oddsOfStateZero() {
        RopeSchool x = b.told("rope 1; wide 10; fast 5; act in 0 0 if lean != -10; act up 0 1 if lean == -10; "
            + "swing -5; lean -10; gusts 0 0 0 2;");
        b.is("through STATE 0", x.odds(115, 2, 1), 9);
        b.is("into STATE 0", x.odds(115, 1, 2), 3);
        b.is("from STATE 0", x.odds(0, 1, 1), 3);
        b.is("no fall in STATE 0", x.odds(115, 2, 0), 0);
        b.is("STATE 0 at first", x.odds(0, 0, 2), 1);
        b.is("OVER in the first STATE of the last place", x.odds(0, 1, 2), 3);
        b.is("OVER in it at first", x.odds(231, 0, 2), 1);
    }

    private void oddsOfMany() {
        b.says(30, "ODDS: what 0 with a fall, 1 OVER, 2 all;");
        RopeSchool x = b.told("act a 0 0; swing 0; lean 0; gusts 0 8 -6 6;");
        b.is("13 to the power of 12", x.odds(115, 12, 2), 23298085122481L);
        b.is("none falls", x.odds(115, 12, 0), 0);
        x = b.told("act a 0 0; gusts 0 8 -6 6; swing 0; lean at*0+lean*99+gust*0+(gust+6)/12;");
        // by gust 6 one leans by 1, and by whatever comes behind that one falls
        long fell = 0;
        long ways = 1;
        for (int n = 2; n <= 12; n++) {
            fell += ways * 13;
            ways *= 12;
            b.is("13 rows fall for each that leans, n " + n, x.odds(115, n, 0), fell);
        }
        x = b.told("rope 1; gusts 0 8 -6 6; act up 0 1; swing 0; lean gust/6*99;");
        b.is("two of 13 fall", x.odds(115, 12, 0), 2);
        b.is("11 of 13 are OVER", x.odds(115, 12, 1), 11);
        b.is("all 13", x.odds(115, 12, 2), 13);
        for (int n = 0; n <= 12; n++) {
            b.is("OVER at first: one row", x.odds(Book.number(1, 0, 0), n, 1), 1);
            b.is("OVER at first: all", x.odds(Book.number(1, 0, 0), n, 2), 1);
            b.is("OVER at first: no fall", x.odds(Book.number(1, 0, 0), n, 0), 0);
        }
        b.says(30, "NONE: no such ones.");
        for (int n : Book.beyond(0, 12)) {
            b.is("n " + n, x.odds(115, n, 2), -1);
            b.is("OVER, n " + n, x.odds(Book.number(1, 0, 0), n, 1), -1);
        }
        for (int what : Book.beyond(0, 2)) {
            b.is("what " + what, x.odds(115, 3, what), -1);
        }
        b.justStates("odds", "act a 0 0 if lean < 1;", -1, (y, s) -> y.odds(s, 2, 2));
        b.justStates("odds of 0 BEATS", "act a 0 0 if lean < 1;", -1, (y, s) -> y.odds(s, 0, 0));
    }

    private void learn() {
        b.says("Terms", "LEARNING from a STATE: again and again: if there is a PROOF, the last STATE of the walk by "
            + "the WITNESS that is SAFE and"
            + " not LEARNED becomes LEARNED, with its KEEP;");
        RopeSchool x = b.told("rope 4; act up 0 1 if at != 2; act st 0 0 if at == 0 or at == 1;");
        // AT 2 no ACT CAN be done; AT 0 and AT 1 are SAFE, as one can stay: AT 1 is the last
        b.is("proof", x.proof(115), 3);
        b.is("learn", x.learn(115), 1);
        b.is("the last that is SAFE", x.learned(0), 346);
        b.is("with its KEEP", x.reflex(346), 1);
        b.is("the first one is as it was", x.reflex(115), 0);
        b.is("proof then", x.proof(115), 0);
        x = b.told("rope 4; act bad 9 0; act up 0 1; act st 0 0; swing push*9; lean lean;");
        b.is("again and again", x.learn(115), 4);
        for (int i = 0; i < 4; i++) {
            b.is("learned " + i, x.learned(i), Book.number(i, 0, 0));
            b.is("with its KEEP, AT " + i, x.reflex(Book.number(i, 0, 0)), 1);
        }
        b.is("arrives then", x.arrives(115), 4);
        b.is("what lies elsewhere is not LEARNED", x.reflex(126), 0);
        x = b.told("wide 2; act l 1 0; act r -1 0; swing 0; lean lean-push*2+gust; gusts 0 8 -1 1;");
        b.is("one swing too many by the first ACT", x.proof(115), 1);
        b.is("nothing is SAFE here", x.count(12) - x.safe(4), 0);
        b.is("so nothing is LEARNED", x.learn(115), 0);
        x = b.told("rope 4; act good 0 1; act bad 9 0; swing push*9; lean lean; reflex 1 == 1 do bad;");
        b.is("the KEEP is the first ACT", x.learn(115), 4);
        b.is("the LEARNED ACT", x.reflex(115), 0);
        b.is("what is not LEARNED", x.reflex(126), 1);
        b.is("OVER by what is LEARNED", x.arrives(115), 4);
        b.is("forget", x.forget(), 4);
        b.is("the reflex again", x.reflex(115), 1);
        b.is("the same again", x.learn(115), 4);
        x = b.told("rope 1; wide 10; fast 5; act bad 9 0; act in 0 0 if lean != -10; act up 0 1; swing push*9-5; "
            + "lean -10;");
        b.is("STATE 0 among them", x.learn(230), 2);
        b.is("the first", x.learned(0), 230);
        b.is("STATE 0", x.learned(1), 0);
        b.is("its ACT", x.reflex(0), 2);
        b.says("Terms", "until there is no PROOF, no such STATE, or 40 are LEARNED.");
        x = b.told(RoundsEdges.WAY_OVER.replace("act st", "act bad 9 0; act st").replace("swing swing",
            "swing push*9+swing"));
        b.is("40 at once", x.learn(0), 40);
        for (int i = 0; i <= 40; i++) {
            b.is("learned " + i, x.learned(i), i < 40 ? i : -1);
        }
        b.is("the fall behind them", x.proof(0), 41);
        b.is("no PROOF", b.told("act a 0 0;").learn(115), 0);
        b.is("no PROOF: OVER", b.told("act a 9 0;").learn(Book.number(4, 0, 0)), 0);
        b.is("no such STATE", b.told(RoundsEdges.WAY_DOWN).learn(0), 0);
        b.is("no such STATE at the start, where it falls at once", b.told("swing 9;").learn(115), 0);
    }

    private void learnForty() {
        RopeSchool x = b.told(LESSONS);
        for (int lean = -2; lean <= 2; lean++) {
            b.is("seven", x.learn(Book.number(1, lean, 0)), 7);
        }
        b.is("LEARNED", x.count(8), 35);
        b.is("up to forty", x.learn(Book.number(0, 5, 0)), 5);
        b.is("LEARNED", x.count(8), 40);
        b.is("the 40th", x.learned(39), Book.number(4, 5, 0));
        b.is("the 36th", x.learned(35), Book.number(0, 5, 0));
        b.is("no 41st", x.learned(40), -1);
        b.is("one falls behind those", x.proof(Book.number(0, 5, 0)), 6);
        b.is("no more", x.learn(Book.number(0, 5, 0)), 0);
        b.is("nor elsewhere", x.learn(Book.number(0, 9, 0)), 0);
        b.is("forget", x.forget(), 40);
        b.is("again", x.learn(Book.number(0, 9, 0)), 8);
        x = b.told(LESSONS);
        for (int lean = -2; lean <= 2; lean++) {
            b.is("eight", x.learn(Book.number(0, lean, 0)), 8);
        }
        b.is("just forty", x.count(8), 40);
        b.is("the last one gets OVER", x.arrives(Book.number(0, 2, 0)), 8);
        b.says(31, "LEARNING from a STATE: how many more are LEARNED;");
        x = b.told(LESSONS);
        b.is("eight", x.learn(115), 8);
        b.is("no more", x.learn(115), 0);
        b.is("AT 3 they are LEARNED", x.learn(Book.number(3, 0, 0)), 0);
        b.is("one more, then they are LEARNED", x.learn(Book.number(0, 0, 1)), 1);
        b.is("which one", x.learned(8), Book.number(0, 0, 1));
        b.says(31, "NONE: no such STATE.");
        b.justStates("learn", "act a 0 0 if lean < 1;", -1, (y, s) -> y.learn(s));
    }

    private void learned() {
        b.says(32, "The i-th STATE that was LEARNED;");
        RopeSchool x = b.told(LESSONS);
        x.learn(Book.number(6, -10, -5));
        x.learn(Book.number(7, 10, 5));
        int[] want = {Book.number(6, -10, -5), Book.number(7, -10, 0), Book.number(7, 10, 5)};
        for (int i = 0; i < want.length; i++) {
            b.is("learned " + i, x.learned(i), want[i]);
        }
        x.learn(0);
        b.is("STATE 0", x.learned(3), 0);
        b.says(32, "NONE: not so many.");
        int many = x.count(8);
        for (int i : Book.beyond(0, many - 1)) {
            b.is("learned " + i, x.learned(i), -1);
        }
        b.is("the last one is there", x.learned(many - 1) == -1, false);
        b.is("none at first", new RopeSchool().learned(0), -1);
        b.says(33, "All that is LEARNED is forgotten: how many that were.");
        b.is("forget", x.forget(), many);
        b.is("LEARNED", x.count(8), 0);
        b.is("learned 0", x.learned(0), -1);
        b.is("reflex", x.reflex(0), 0);
        b.is("proof", x.proof(Book.number(6, -10, -5)), 1);
        b.is("none were", x.forget(), 0);
        b.is("none were", new RopeSchool().forget(), 0);
        x = b.told(LESSONS);
        x.stand(115);
        x.pole(2);
        x.stand(126);
        x.forecast(0);
        x.learn(115);
        x.forget();
        b.is("nothing else goes", x.count(13) * 100 + x.count(6) * 10 + x.count(7), 12621);
    }

    // ---- DRILLS ----

    /** The document's words, in numbers of 64 bits. */
    static int lot(int n, int seed, int which) {
        long bits = 0xffffffffL;
        long h = seed & bits;
        for (long it : new long[] {3, which & bits}) {
            h = ((h ^ it) * 1103515245L + 12345L) & bits;
            h = h ^ h >> 15;
        }
        return (int) ((h >> 1) % n);
    }

    private void lots() {
        b.says("Terms", "LOT n of a SEED and a which: h is the SEED; "
            + "for each of 3, which: h becomes (h and it, each bit of which is in just one)"
            + " times 1103515245 and 12345 more, then h and h moved 15 bits down (zeros come in), likewise;"
            + " the rest of h, moved 1 bit down likewise, by n (32 bits that wrap).");
        int[] seeds = {0, 1, 2, 3, -1, -2, Integer.MAX_VALUE, Integer.MIN_VALUE, 1103515245, 123456789, -987654321,
            1 << 15, 1 << 30};
        for (int m = 1; m <= 13; m++) {
            for (int gust = -6; gust <= m - 7; gust++) {
                RopeSchool x = b.told("act a 0 0; gusts 0 8 -6 " + (m - 7) + ";" + fatal(gust));
                for (int seed : seeds) {
                    int due = lot(m, seed, 0) == gust + 6 ? 1 : 0;
                    b.is("LOT " + m + " of SEED " + seed, x.drill(115, seed, 1, 1, 0), due);
                }
            }
        }
    }

    private void drill() {
        b.says("Terms", "DRILLS: walks by REFLEXES, gusts by LOT: BEAT b (from 0 on) has of the m gusts of its STATE, "
            + "from the least one on,"
            + " that of number LOT m of the SEED and which b.");
        for (int beat = 0; beat < 8; beat++) {
            // one falls by that BEAT alone, which is that AT the place of its number, and by gust 1 alone of -1 .. 2
            RopeSchool x = b.told("rope 8; act up 0 1; gusts 0 8 -1 2; swing 0; "
                + "lean 9/(1+((gust-1)*(gust-1)+(at-" + beat + ")*(at-" + beat + "))*9);");
            for (int seed = -3; seed <= 3; seed++) {
                b.is("BEAT " + beat + " of SEED " + seed, x.drill(115, seed, 1, 8, 0), lot(4, seed, beat) == 2 ? 1 : 0);
                b.is("OVER, SEED " + seed, x.drill(115, seed, 1, 8, 1), lot(4, seed, beat) == 2 ? 0 : 1);
                b.is("BEAT 0 is where it starts",
                    x.drill(Book.number(beat, 0, 0), seed, 1, 8, 0), lot(4, seed, 0) == 2 ? 1 : 0);
            }
        }
        for (int beat = 56; beat < 60; beat++) {
            // lean and swing count the BEATS here: one falls by the one of that number, and gust 3 alone of 1 .. 3
            String off = "((lean+10)*11+swing+5-" + beat + ")";
            String fall = "swing 99/(1+((gust-3)*(gust-3)+" + off + "*" + off + ")*99)+swing";
            RopeSchool x = b.told(RoundsEdges.WAY.replace("swing swing", fall) + "; gusts 0 8 1 3;");
            for (int seed = 0; seed < 30; seed++) {
                b.is("BEAT " + beat + " of SEED " + seed, x.drill(0, seed, 1, 60, 0), lot(3, seed, beat) == 2 ? 1 : 0);
            }
        }
        RopeSchool x = b.told("rope 2; act up 0 1; gusts 0 0 -1 0; gusts 1 1 1 5; swing 0; lean lean+gust; wide 4;");
        int fell = 0;
        for (int seed = 40; seed < 140; seed++) {
            fell += lot(2, seed, 0) == 1 && lot(5, seed, 1) == 4 ? 1 : 0;
        }
        b.is("each STATE has its own gusts", x.drill(115, 40, 100, 2, 0), fell);
        x = b.told("rope 1; wide 10; fast 5; act in 0 0 if lean != -10; act up 0 1 if lean == -10; swing -5; "
            + "lean -10;");
        b.is("through STATE 0", x.drill(115, 0, 3, 2, 1), 3);
        b.is("none falls there", x.drill(115, 0, 3, 1, 0) + x.drill(115, 0, 3, 1, 1), 0);
        b.is("from STATE 0", x.drill(0, 0, 3, 1, 1), 3);
        x = b.told(LESSONS + "gusts 0 8 -1 1;");
        b.is("by REFLEXES one falls", x.drill(115, 1, 10, 60, 0), 10);
        x.learn(115);
        b.is("by what is LEARNED one gets OVER", x.drill(115, 1, 10, 8, 1), 10);
    }

    private void drillBounds() {
        b.says(39, "Of DRILLS by SEEDS seed, seed + 1, .. (k of them, 1 .. 100) from a STATE, of n BEATS at most (0 "
            + ".. 60): how many what 0 fell, 1 were OVER;");
        RopeSchool x = b.told("rope 1; act up 0 1; gusts 0 8 -6 6;" + fatal(0));
        for (int seed : new int[] {0, 5, -50, Integer.MAX_VALUE, Integer.MAX_VALUE - 49, Integer.MIN_VALUE, -1}) {
            int fell = 0;
            for (int k = 1; k <= 100; k++) {
                fell += lot(13, seed + k - 1, 0) == 6 ? 1 : 0;
                if (k == 1 || k == 2 || k == 99 || k == 100) {
                    b.is(k + " from " + seed + " fell", x.drill(115, seed, k, 1, 0), fell);
                    b.is(k + " from " + seed + " OVER", x.drill(115, seed, k, 60, 1), k - fell);
                }
            }
        }
        b.is("0 BEATS", x.drill(115, 0, 100, 0, 0) + x.drill(115, 0, 100, 0, 1), 0);
        b.is("0 BEATS, OVER", x.drill(346, 0, 100, 0, 1), 100);
        b.is("OVER does not fall", x.drill(346, 0, 100, 60, 0), 0);
        x = b.told(RoundsEdges.WAY_DOWN);
        b.is("a fall by the 60th BEAT", x.drill(OPEN - 60, 0, 3, 60, 0), 3);
        b.is("of 59", x.drill(OPEN - 60, 0, 3, 59, 0), 0);
        b.is("a fall by the 61st BEAT", x.drill(OPEN - 61, 0, 3, 60, 0), 0);
        x = b.told(RoundsEdges.WAY_OVER);
        b.is("OVER by the 60th BEAT", x.drill(OPEN - 60, 0, 3, 60, 1), 3);
        b.is("OVER by the 61st BEAT", x.drill(OPEN - 61, 0, 3, 60, 1), 0);
        b.says(39, "NONE: no such ones.");
        for (int k : Book.beyond(1, 100)) {
            b.is("k " + k, x.drill(115, 0, k, 5, 0), -1);
        }
        for (int n : Book.beyond(0, 60)) {
            b.is("n " + n, x.drill(115, 0, 5, n, 0), -1);
            b.is("OVER, n " + n, x.drill(OPEN, 0, 5, n, 1), -1);
        }
        for (int what : Book.beyond(0, 1)) {
            b.is("what " + what, x.drill(115, 0, 5, 5, what), -1);
        }
        b.justStates("drill", "act a 0 0 if lean < 1;", -1, (y, s) -> y.drill(s, 0, 2, 2, 0));
        b.justStates("drill of 0 BEATS", "act a 0 0 if lean < 1;", -1, (y, s) -> y.drill(s, 0, 1, 0, 1));
    }
}
