/** The edges of ROPES, STATES, ACTS, gusts, sums and BEATS: the rest of part I of the Terms, promises 6 to 10. */
final class RopeEdges {
    /** -2 ^ 31, written with INTS. */
    private static final String LEAST = "8192*8192*32";
    private static final String GREATEST_ROPE = "rope 8; wide 10; fast 5; ";
    private final Book b;

    RopeEdges(Book book) {
        b = book;
    }

    void all() {
        sizes();
        lastTold();
        states();
        over();
        acts();
        can();
        untoldAct();
        gusts();
        vars();
        noActNoGust();
        wraps();
        divisions();
        beat();
        heldPlaces();
        untoldLaws();
        falls();
        pole();
        next();
    }

    // ---- the ROPE and its STATES ----

    private void sizes() {
        b.says("Terms", "A ROPE of LENGTH L, WIDE W, FAST F (4, 6, 3 if not told;");
        RopeSchool x = b.told("rope 8; wide 10; fast 5;");
        b.is("told STATES", x.count(11), 9 * 21 * 11);
        String[] texts = {"", "wide 10; fast 5;", "rope 8; fast 5;", "rope 8; wide 10;", "rope 1; wide 1; fast 1;"};
        int[][] want = {{4, 6, 3}, {4, 10, 5}, {8, 6, 5}, {8, 10, 3}, {1, 1, 1}};
        for (int i = 0; i < texts.length; i++) {
            b.is("read", Due.read(x, texts[i]), 0);
            for (int what = 0; what < 3; what++) {
                b.is("count(" + what + ") of " + texts[i], x.count(what), want[i][what]);
            }
            b.is("STATES", x.count(11), (want[i][0] + 1) * (2 * want[i][1] + 1) * (2 * want[i][2] + 1));
        }
    }

    private void lastTold() {
        b.says("Terms", "of several the last one told; of laws likewise).");
        RopeSchool x = b.told("rope 8; wide 10; fast 5; swing 1; lean 2; rope 3; wide 7; fast 4; swing 0-3; lean 5;");
        b.is("LENGTH", x.count(0), 3);
        b.is("WIDE", x.count(1), 7);
        b.is("FAST", x.count(2), 4);
        b.is("the laws", x.next(115, 0, 0), Book.number(1, 5, -3));
        x = b.told("swing 1/0; lean 1/0; swing 1; lean 2;");
        b.is("a law told ahead of another does nothing", x.next(115, 0, 0), Book.number(1, 2, 1));
        x = b.told("swing 1; lean 2; swing 1/0;");
        b.is("the last one divides by 0", x.next(115, 0, 0), -2);
    }

    private void states() {
        b.says("Terms", "STATES: AT 0 .. L, LEAN -W .. W, SWING -F .. F;");
        int[][] ropes = {{1, 1, 1}, {4, 6, 3}, {8, 10, 5}, {8, 1, 5}, {1, 10, 1}};
        for (int[] r : ropes) {
            RopeSchool x = b.told("rope " + r[0] + "; wide " + r[1] + "; fast " + r[2] + ";");
            for (int at = -1; at <= r[0] + 1; at++) {
                for (int lean = -r[1] - 1; lean <= r[1] + 1; lean += r[1] + 1) {
                    for (int swing = -r[2] - 1; swing <= r[2] + 1; swing += r[2] + 1) {
                        boolean is = at >= 0 && at <= r[0] && lean == 0 && swing == 0;
                        int due = is ? Book.number(at, 0, 0) : -1;
                        b.is("state " + at + " " + lean + " " + swing, x.state(at, lean, swing), due);
                    }
                }
                boolean there = at >= 0 && at <= r[0];
                b.is("all edges", x.state(at, -r[1], -r[2]), there ? Book.number(at, -r[1], -r[2]) : -1);
                b.is("all edges", x.state(at, r[1], r[2]), there ? Book.number(at, r[1], r[2]) : -1);
                b.is("all edges", x.state(at, -r[1], r[2]), there ? Book.number(at, -r[1], r[2]) : -1);
            }
        }
        b.says("Terms", "numbered (AT * 21 + LEAN + 10) * 11 + SWING + 5.");
        int want = 0;
        for (int at = 0; at <= 8; at++) {
            RopeSchool x = b.told(GREATEST_ROPE);
            for (int lean = -10; lean <= 10; lean++) {
                for (int swing = -5; swing <= 5; swing++) {
                    b.is("state " + at + " " + lean + " " + swing, x.state(at, lean, swing), want);
                    want++;
                }
            }
        }
        RopeSchool x = b.told("rope 1; wide 1; fast 1;");
        b.is("the least of a small ROPE", x.state(0, -1, -1), 103);
        b.is("the greatest of a small ROPE", x.state(1, 1, 1), 231 + 127);
        b.says(7, "The number of a STATE;");
        b.is("0", b.told(GREATEST_ROPE).state(0, -10, -5), 0);
        b.is("2078", b.told(GREATEST_ROPE).state(8, 10, 5), 2078);
        b.says(7, "NONE: there is none such.");
        x = b.told(GREATEST_ROPE);
        for (int at : Book.beyond(0, 8)) {
            b.is("state at " + at, x.state(at, 0, 0), -1);
        }
        for (int lean : Book.beyond(-10, 10)) {
            b.is("state lean " + lean, x.state(0, lean, 0), -1);
        }
        for (int swing : Book.beyond(-5, 5)) {
            b.is("state swing " + swing, x.state(0, 0, swing), -1);
        }
        // 21 * 11 times the first is 1, 11 times the second is 1 (32 bits)
        int far = 1;
        int wide = 1;
        for (int i = 0; i < 6; i++) {
            far *= 2 - 231 * far;
            wide *= 2 - 11 * wide;
        }
        b.is("a number that wraps to that of a STATE", x.state(far, 0, 0), -1);
        b.is("a number that wraps to that of a STATE", x.state(0, wide, 0), -1);
        b.is("a number that wraps", x.state(0, 0, 1 << 31), -1);
    }

    private void over() {
        b.says("Terms", "With AT = L the walker is OVER.");
        for (int length = 1; length <= 8; length++) {
            RopeSchool x = b.told("rope " + length + "; act a 0 0;");
            for (int at = 0; at <= length; at++) {
                int s = x.state(at, 0, 0);
                b.is("can AT " + at + " of " + length, x.can(s, 0), at == length ? 0 : 1);
                b.is("reach AT " + at + " of " + length, x.reach(s), at == length ? 0 : -2);
            }
        }
    }

    // ---- ACTS and gusts ----

    private void acts() {
        b.says("Terms", "ACTS are numbered from 0 on as they stand: PUSH, STEP (-1 .. 1);");
        RopeSchool x = b.told(GREATEST_ROPE + "act f 9 1; act e -9 -1; act d 0 0; act c - 1 - 0; act b 1 -1; act a 0 1;"
            + "swing push/2; lean push;");
        int[] pushes = {9, -9, 0, -1, 1, 0};
        int[] steps = {1, -1, 0, 0, -1, 1};
        for (int a = 0; a < 6; a++) {
            b.is("ACT " + a, x.next(Book.number(3, 0, 0), a, 0), Book.number(3 + steps[a], pushes[a], pushes[a] / 2));
        }
        b.is("ACTS", x.count(3), 6);
    }

    private void can() {
        b.says("Terms", "an ACT CAN be done in a STATE that is not OVER if its COND holds there (or it has none);");
        RopeSchool x = b.told("rope 2; wide 2; fast 2; act a 0 0; act b 0 0 if 0 <= lean; "
            + "act c 0 0 if at == 2 or swing == -2;");
        for (int at = 0; at <= 2; at++) {
            for (int lean = -2; lean <= 2; lean++) {
                int s = Book.number(at, lean, lean);
                b.is("no COND", x.can(s, 0), at < 2 ? 1 : 0);
                b.is("0 <= lean", x.can(s, 1), at < 2 && lean >= 0 ? 1 : 0);
                b.is("COND holds when OVER", x.can(s, 2), at < 2 && lean == -2 ? 1 : 0);
            }
        }
        b.says(8, "1 if an ACT CAN be done in a STATE (its number), else 0;");
        b.is("CAN", x.can(115, 0), 1);
        b.is("CAN", x.can(115, 1), 1);
        b.is("can't", x.can(115, 2), 0);
        b.is("OVER", x.can(Book.number(2, 0, 0), 0), 0);
        b.says(8, "NONE: no such ones.");
        for (int act : Book.beyond(0, 2)) {
            b.is("ACT " + act, x.can(115, act), -1);
            b.is("ACT " + act + " OVER", x.can(Book.number(2, 0, 0), act), -1);
            b.is("ACT " + act + " nowhere", x.can(-1, act), -1);
        }
        // bits of a row of ACTS come round again after 32
        b.is("ACT 32", x.can(115, 32), -1);
        b.is("ACT 3", x.can(115, 3), -1);
        b.justStates("can", "act a 0 0 if lean < 1;", -1, (y, s) -> y.can(s, 0));
    }

    private void untoldAct() {
        b.says("Terms", "without an ACT told there is one: PUSH 0, STEP 1.");
        RopeSchool x = b.told("act a 9 -1 if 1<1; act b 9 0;");
        for (String text : new String[] {"", "wide 5; gusts 0 1 0 1;"}) {
            b.is("read", Due.read(x, text), 0);
            b.is("ACTS", x.count(3), 1);
            b.is("CAN", x.can(115, 0), 1);
            b.is("no other one", x.can(115, 1), -1);
            b.is("STEP 1, PUSH 0", x.next(115, 0, 0), Book.number(1, 0, 0));
            x.pole(4);
            b.is("PUSH 0 with POLE 4", x.next(115, 0, 0), Book.number(1, 0, 0));
        }
        x = b.told("act a 0 0;");
        b.is("with one told there is no other", x.can(115, 1), -1);
    }

    private void gusts() {
        b.says("Terms", "GUSTS a b c d: AT a .. b, if their COND holds, the gusts c .. d;");
        RopeSchool x = b.told("rope 8; gusts 2 4 -3 5; gusts 6 6 6 6 if lean < 0; gusts 8 8 -6 -6 if not lean < 0;");
        for (int at = 0; at <= 8; at++) {
            boolean told = at >= 2 && at <= 4;
            b.is("least AT " + at, x.gust(Book.number(at, 0, 0), false), told ? -3 : at == 8 ? -6 : 0);
            b.is("greatest AT " + at, x.gust(Book.number(at, 0, 0), true), told ? 5 : at == 8 ? -6 : 0);
            b.is("least with lean -1 AT " + at, x.gust(Book.number(at, -1, 0), false), told ? -3 : at == 6 ? 6 : 0);
        }
        x = b.told("rope 1; gusts 0 8 -6 6;");
        b.is("places beyond the ROPE", x.gust(Book.number(1, 0, 0), true), 6);
        b.says("Terms", "of several that hold the last one told, if none does gust 0 alone.");
        x = b.told("rope 8; gusts 0 5 1 2; gusts 3 7 -2 -1; gusts 5 5 4 4 if lean == 1; "
            + "gusts 0 8 6 6 if lean == 2 and at == 0;");
        int[] least = {1, 1, 1, -2, -2, -2, -2, -2, 0};
        int[] greatest = {2, 2, 2, -1, -1, -1, -1, -1, 0};
        for (int at = 0; at <= 8; at++) {
            b.is("least AT " + at, x.gust(Book.number(at, 0, 0), false), least[at]);
            b.is("greatest AT " + at, x.gust(Book.number(at, 0, 0), true), greatest[at]);
        }
        b.is("a later one whose COND holds", x.gust(Book.number(5, 1, 0), true), 4);
        b.is("the last one", x.gust(Book.number(0, 2, 0), false), 6);
        x = b.told("gusts 0 8 1 1;".repeat(7) + "gusts 1 8 2 2;");
        b.is("the eighth does not hold", x.gust(115, true), 1);
        b.is("the eighth holds", x.gust(346, true), 2);
        b.says(9, "The least (most: the greatest) gust of a STATE;");
        x = b.told("gusts 0 3 -6 6;");
        b.is("least", x.gust(115, false), -6);
        b.is("greatest", x.gust(115, true), 6);
        x = b.told(GREATEST_ROPE + "gusts 0 0 -4 3; gusts 8 8 -2 5;");
        b.is("STATE 0, least", x.gust(0, false), -4);
        b.is("STATE 0, greatest", x.gust(0, true), 3);
        b.is("the last STATE, least", x.gust(2078, false), -2);
        b.is("the last STATE, greatest", x.gust(2078, true), 5);
        b.says(9, "-100: no such one.");
        b.justStates("gust, least", "gusts 0 8 -6 6;", -100, (y, s) -> y.gust(s, false));
        b.justStates("gust, greatest", "gusts 0 8 -6 6;", -100, (y, s) -> y.gust(s, true));
    }

    // ---- sums ----

    private void vars() {
        b.says("Terms", "VARS: at, lean, swing of the STATE, push of the ACT, gust, pole (the POLE, 1 .. 4, 1 at "
            + "first);");
        for (int at = 0; at <= 7; at += 7) {
            for (int lean = -10; lean <= 10; lean += 10) {
                for (int swing = -5; swing <= 5; swing += 5) {
                    String cond = "at == " + at + " and lean == " + lean + " and swing == " + swing;
                    RopeSchool x = b.told(GREATEST_ROPE + "act a 0 0 if " + cond + ";");
                    b.is("the VARS of a STATE", x.can(Book.number(at, lean, swing), 0), 1);
                    b.is("and of another one", x.can(Book.number(3, lean, swing), 0), 0);
                }
            }
        }
        RopeSchool x = b.told(GREATEST_ROPE + "act a 9 0 if push == 9; act b -9 0 if push == -9; "
            + "act c 1 0 if push != 1;"
            + "swing pole; lean push*gust;");
        b.is("push 9", x.can(115, 0), 1);
        b.is("push -9", x.can(115, 1), 1);
        b.is("push 1", x.can(115, 2), 0);
        b.is("push times gust in a law", x.next(115, 0, 1), Book.number(0, 9, 1));
        b.is("push times gust in a law", x.next(115, 1, 1), Book.number(0, -9, 1));
        for (int p = 1; p <= 4; p++) {
            x.pole(p);
            b.is("pole in a law", x.next(115, 0, -1), Book.number(0, -9, p));
        }
        x = b.told(GREATEST_ROPE + "swing gust/3; lean gust-gust/11;");
        for (int gust = -12; gust <= 12; gust++) {
            int lean = gust - gust / 11;
            b.is("gust " + gust, x.next(115, 0, gust), lean < -10 || lean > 10 ? -2 : Book.number(1, lean, gust / 3));
        }
    }

    private void noActNoGust() {
        b.says("Terms", "where there is no ACT, no gust, these are 0.");
        RopeSchool x = b.told("act a 9 0 if gust == 0; act b 9 0 if gust != 0; act c 5 0; "
            + "gusts 0 8 1 6 if push == 0 and gust == 0;"
            + "gusts 0 8 2 2 if push != 0 or gust != 0; reflex push != 0 or gust != 0 do a; "
                + "reflex push == 0 and gust == 0 do c;");
        b.is("no gust in the COND of an ACT", x.can(115, 0), 1);
        b.is("no gust in the COND of an ACT", x.can(115, 1), 0);
        b.is("neither in the COND of gusts", x.gust(115, true), 6);
        b.is("neither in the COND of a reflex", x.reflex(115), 2);
        // what was reckoned ahead of it with a PUSH and a gust is not left over
        x.next(115, 0, 6);
        b.is("neither in the COND of a reflex", x.reflex(126), 2);
        b.is("neither in the COND of gusts", x.gust(137, true), 6);
        b.is("no gust in the COND of an ACT", x.can(148, 0), 1);
    }

    private void holds(String cond) {
        b.is(cond, b.told("act a 0 0 if " + cond + ";").can(115, 0), 1);
        b.is("not " + cond, b.told("act a 0 0 if not " + cond + ";").can(115, 0), 0);
    }

    private void wraps() {
        b.says("Terms", "(32 bits that wrap, / rounded towards 0;");
        holds(LEAST + " < 0");
        holds("0 < " + LEAST + "-1");
        holds(LEAST + "-1+1 == " + LEAST);
        holds("-(" + LEAST + ") == " + LEAST);
        holds("-" + LEAST + " == " + LEAST);
        holds(LEAST + "/-1 == " + LEAST);
        holds(LEAST + "*-1 == " + LEAST);
        holds(LEAST + "*2 == 0");
        holds(LEAST + "+" + LEAST + " == 0");
        holds("0-" + LEAST + " == " + LEAST);
        holds(LEAST + "/2 == -8192*8192*16");
        holds("-(" + LEAST + ")/2 == -8192*8192*16");
        holds("-(" + LEAST + "/2) == 8192*8192*16");
        holds("3-(" + LEAST + ")/2 == 8192*8192*16+3");
        holds("2*-(" + LEAST + ")/4 == 0");
        holds(LEAST + " < " + LEAST + "-1");
        // 9999 * 9999 * 9999 is 999,700,029,999, and that 233 times 2 ^ 32 less is below 0
        holds("9999*9999*9999 == -(1027*1000*1000+349*1000+969)");
        holds("7/2 == 3");
        holds("-7/2 == -3");
        holds("7/-2 == -3");
        holds("-7/-2 == 3");
        holds("1/2 == 0");
        holds("-1/2 == 0");
        holds("0/5 == 0");
        holds("9999/9999 == 1");
        holds("9998/9999 == 0");
        RopeSchool x = b.told("swing " + LEAST + "*2+1; lean " + LEAST + "+" + LEAST + "-2;");
        b.is("laws that wrap", x.next(115, 0, 0), Book.number(1, -2, 1));
    }

    private void divisions() {
        b.says("Terms", "a LIT with a division by 0 does not hold, its not does.)");
        String[] sums = {"1/0", "0/0", "0*(1/0)", "1/(1-1)", "1/lean", "2-(3+4*(5/at))"};
        for (String sum : sums) {
            for (String how : new String[] {"==", "!=", "<", "<="}) {
                for (int side = 0; side < 2; side++) {
                    String lit = side == 0 ? sum + how + "1" : "1" + how + sum;
                    String[] conds = {lit, "not " + lit, "not not " + lit, lit + " or 1 == 1", "1 == 1 and " + lit,
                        "1 == 2 or not " + lit + " and 1 == 1"};
                    StringBuilder acts = new StringBuilder();
                    for (int a = 0; a < 6; a++) {
                        acts.append("act ").append((char) ('a' + a)).append(" 0 0 if ").append(conds[a]).append(';');
                    }
                    RopeSchool x = b.told(acts.toString());
                    int[] want = {0, 1, 0, 1, 0, 1};
                    for (int a = 0; a < 6; a++) {
                        b.is("ACT " + a + " of " + lit, x.can(115, a), want[a]);
                    }
                }
            }
        }
        RopeSchool x = b.told("act a 0 0; act b 0 0; gusts 0 8 1 1; gusts 0 8 2 2 if 1/lean == 1; "
            + "gusts 0 8 3 3 if not 1/swing < 9;"
            + "reflex 1/lean != 7 do b; reflex not 1/swing < 9 do b;");
        b.is("gusts, neither divides", x.gust(Book.number(0, 1, 1), true), 2);
        b.is("gusts, the first divides by 0", x.gust(Book.number(0, 0, 1), true), 1);
        b.is("gusts, the second divides by 0", x.gust(Book.number(0, 1, 0), true), 3);
        b.is("reflex, neither divides", x.reflex(Book.number(0, 1, 1)), 1);
        b.is("reflex, the first divides by 0", x.reflex(Book.number(0, 0, 1)), 0);
        b.is("reflex, both do", x.reflex(115), 1);
    }

    // ---- BEATS ----

    private void beat() {
        b.says("Terms", "A BEAT from a STATE that is not OVER by an ACT and a gust: the next SWING is the law swing,"
            + " the next LEAN the law lean with that as swing;");
        RopeSchool x = b.told(GREATEST_ROPE + "act a 2 1; swing swing+lean-at+push-gust+pole; "
            + "lean lean+swing*2+at-push+gust-pole;");
        // swing 1 + 2 - 3 + 2 - 1 + 1 = 2; lean 2 + 4 + 3 - 2 + 1 - 1 = 7
        b.is("all VARS in both laws", x.next(Book.number(3, 2, 1), 0, 1), Book.number(4, 7, 2));
        x = b.told(GREATEST_ROPE + "swing at; lean at;");
        b.is("at is that of the STATE ahead of the BEAT", x.next(Book.number(5, 0, 0), 0, 0), Book.number(6, 5, 5));
        x = b.told(GREATEST_ROPE + "swing lean/2; lean swing*2;");
        b.is("the law lean has the next SWING", x.next(Book.number(0, 4, 5), 0, 0), Book.number(1, 4, 2));
        b.is("OVER there is no BEAT", x.next(Book.number(8, 0, 0), 0, 0), -3);
    }

    private void heldPlaces() {
        b.says("Terms", "AT is STEP more, held to 0 .. L.");
        RopeSchool x = b.told("rope 3; act up 0 1; act st 0 0; act dn 0 -1;");
        for (int at = 0; at < 3; at++) {
            b.is("up AT " + at, x.next(Book.number(at, 0, 0), 0, 0), Book.number(at + 1, 0, 0));
            b.is("stay AT " + at, x.next(Book.number(at, 0, 0), 1, 0), Book.number(at, 0, 0));
            b.is("down AT " + at, x.next(Book.number(at, 0, 0), 2, 0), Book.number(at == 0 ? 0 : at - 1, 0, 0));
        }
        x = b.told("rope 1; act up 0 1; act dn 0 -1;");
        b.is("the one place", x.next(115, 0, 0), 346);
        b.is("the one place", x.next(115, 1, 0), 115);
    }

    private void untoldLaws() {
        b.says("Terms", "Without told laws: swing + lean / 4 + gust - push * pole, and lean + swing.");
        RopeSchool x = b.told(GREATEST_ROPE + "act a 0 1; act b 1 0; act c -1 -1;");
        for (int lean = -10; lean <= 10; lean++) {
            // -10 / 4 is -2, -3 / 4 is 0
            int swing = lean < 0 ? -(-lean / 4) : lean / 4;
            boolean stays = lean + swing >= -10 && lean + swing <= 10;
            int due = stays ? Book.number(3, lean + swing, swing) : -2;
            b.is("lean " + lean, x.next(Book.number(2, lean, 0), 0, 0), due);
        }
        for (int p = 1; p <= 4; p++) {
            x.pole(p);
            b.is("push 1, POLE " + p, x.next(Book.number(2, 1, 1), 1, 0), Book.number(2, 2 - p, 1 - p));
            b.is("push -1, POLE " + p, x.next(Book.number(2, 1, 1), 2, 0), Book.number(1, 2 + p, 1 + p));
            b.is("gust 2, POLE " + p, x.next(Book.number(2, 1, 1), 1, 2), Book.number(2, 4 - p, 3 - p));
        }
        x = b.told("swing 2;");
        b.is("swing told alone", x.next(Book.number(0, 1, 0), 0, 0), Book.number(1, 3, 2));
        x = b.told("lean 2;");
        b.is("lean told alone", x.next(Book.number(0, 4, 1), 0, 1), Book.number(1, 2, 3));
    }

    private void falls() {
        b.says("Terms", "The walker FALLS if a law divides by 0, LEAN is beyond W or SWING beyond F then (either "
            + "way).");
        for (int size = 1; size <= 5; size++) {
            RopeSchool x = b.told("wide " + 2 * size + "; fast " + size + "; swing gust; lean gust*2;");
            RopeSchool y = b.told("wide " + size + "; fast " + size + "; swing 0; lean gust;");
            RopeSchool z = b.told("wide " + size + "; fast " + size + "; swing gust; lean 0;");
            for (int gust = -12; gust <= 12; gust++) {
                boolean stays = gust >= -size && gust <= size;
                b.is("both " + gust, x.next(115, 0, gust), stays ? Book.number(1, 2 * gust, gust) : -2);
                b.is("lean " + gust, y.next(115, 0, gust), stays ? Book.number(1, gust, 0) : -2);
                b.is("swing " + gust, z.next(115, 0, gust), stays ? Book.number(1, 0, gust) : -2);
            }
        }
        RopeSchool x = b.told(GREATEST_ROPE + "swing gust; lean gust*2;");
        b.is("the greatest ones", x.next(115, 0, 5), Book.number(1, 10, 5));
        b.is("the least ones", x.next(115, 0, -5), Book.number(1, -10, -5));
        x = b.told(GREATEST_ROPE + "act a 0 1; act b 1 1; act c 2 1; act d 3 1; "
            + "swing push*" + LEAST + "; lean gust*(" + LEAST + "-1);");
        b.is("neither", x.next(115, 0, 0), Book.number(1, 0, 0));
        b.is("SWING -2 ^ 31", x.next(115, 1, 0), -2);
        b.is("LEAN 2 ^ 31 - 1", x.next(115, 0, 1), -2);
        b.is("LEAN 1 - 2 ^ 31", x.next(115, 0, -1), -2);
        b.is("LEAN that has wrapped", x.next(115, 0, 2), Book.number(1, -2, 0));
        b.is("SWING that has wrapped", x.next(115, 2, 0), Book.number(1, 0, 0));
        x = b.told("swing 1/lean; lean 2/swing;");
        b.is("swing divides by 0", x.next(115, 0, 0), -2);
        b.is("lean divides by 0", x.next(Book.number(0, 2, 0), 0, 0), -2);
        b.is("neither does", x.next(Book.number(0, 1, 0), 0, 0), Book.number(1, 2, 1));
        x = b.told("swing 0*(1/lean); lean 0;");
        b.is("0 times a division by 0", x.next(115, 0, 0), -2);
        x = b.told("swing 0; lean 0*(3/(swing-swing));");
        b.is("0 times a division by 0", x.next(115, 0, 0), -2);
        x = b.told("swing 100/(50-lean*50); lean 0;");
        b.is("only what is behind counts", x.next(Book.number(0, -1, 0), 0, 0), Book.number(1, 0, 1));
        b.is("a law divides by 0 for one LEAN alone", x.next(Book.number(0, 1, 0), 0, 0), -2);
    }

    // ---- promises 6 and 10 ----

    private void pole() {
        b.says(6, "The POLE becomes p; nothing is LEARNED, nobody stands on the ROPE then: true;");
        String steer = "rope 2; wide 2; fast 2; act l 1 0; act r -1 0; act go 0 1; gusts 0 1 0 1;";
        for (int p = 1; p <= 4; p++) {
            RopeSchool x = b.told(steer);
            x.forecast(4);
            x.hold(2);
            b.is("learn", x.learn(115), 5);
            x.stand(115);
            Due.beat(x, 2, 0);
            b.is("pole " + p, x.pole(p), true);
            b.is("the POLE", x.count(6), p);
            b.is("LEARNED", x.count(8), 0);
            b.is("learned(0)", x.learned(0), -1);
            b.is("reflex", x.reflex(103), 0);
            b.is("BEATS", x.count(9), -1);
            b.is("undo", x.undo(), false);
            b.is("beat", Due.beat(x, 0, 0), -1000);
            b.is("FORECASTS stay", x.count(7), 1);
            b.is("GUSTS stay", x.count(4), 1);
            b.is("SLOTS stay", x.compare(2, 0) + x.compare(2, 2), b.told(steer).count(12));
            b.is("push by it", x.next(115, 0, 0), p > 2 ? -2 : Book.number(0, -p, -p));
        }
        b.says(6, "false, and nothing happens: not 1 .. 4.");
        RopeSchool x = b.told(steer);
        x.pole(2);
        x.pole(1);
        x.learn(115);
        x.stand(115);
        for (int p : new int[] {0, 5, -1, 6, -4, Integer.MIN_VALUE, Integer.MAX_VALUE, 257}) {
            b.is("pole " + p, x.pole(p), false);
            b.is("the POLE", x.count(6), 1);
            b.is("LEARNED", x.count(8), 5);
            b.is("the WALK", x.count(13), 115);
            b.is("push", x.next(115, 0, 0), 103);
        }
    }

    private void next() {
        b.says(10, "The STATE behind a BEAT;");
        RopeSchool x = b.told("rope 8; wide 10; fast 5; act a 0 1; act b 0 0 if lean == 0; gusts 0 0 1 1; "
            + "swing 5*gust/12; lean 10*gust/12;");
        for (int gust = -12; gust <= 12; gust++) {
            b.is("gust " + gust, x.next(Book.number(7, 10, 5), 0, gust), Book.number(8, 10 * gust / 12, 5 * gust / 12));
        }
        b.is("into the last STATE of all", x.next(0, 0, 12), Book.number(1, 10, 5));
        x = b.told(GREATEST_ROPE + "act a 0 0; act b 1 0; act c 2 0; act d 3 0; act e 4 0; act f 5 0; "
            + "swing gust*5/12; lean 2*push-gust/12;");
        for (int way = 0; way < 2; way++) {
            for (int act = 0; act < 6; act++) {
                for (int gust = -12; gust <= 12; gust++) {
                    int lean = 2 * act - gust / 12;
                    int due = lean > 10 ? -2 : Book.number(0, lean, gust * 5 / 12);
                    b.is("ACT " + act + ", gust " + gust, x.next(115, act, gust), due);
                }
            }
        }
        x = b.told(GREATEST_ROPE + "swing swing; lean lean;");
        for (int gust = -12; gust <= 12; gust++) {
            b.is("from STATE 0, gust " + gust, x.next(0, 0, gust), 231);
            b.is("from the last STATE that is not OVER, gust " + gust, x.next(8 * 231 - 1, 0, gust), 2078);
        }
        x = b.told(GREATEST_ROPE + "act a 0 -1; swing -5; lean -10;");
        b.is("into STATE 0", x.next(7 * 231 + 230, 0, 0), 6 * 231);
        b.is("into STATE 0", x.next(230, 0, 0), 0);
        b.says(10, "-2: the walker FALLS;");
        x = b.told("rope 2; wide 1; fast 1; act a 0 1; act b 0 0 if lean == 0;");
        b.is("too fast", x.next(115, 0, 2), -2);
        b.is("too wide", x.next(127, 0, 0), -2);
        b.says(10, "-3: the ACT can't be done;");
        b.is("its COND does not hold", x.next(126, 1, 0), -3);
        b.is("its COND does not hold, whatever it would do", x.next(127, 1, 0), -3);
        b.is("OVER", x.next(Book.number(2, 0, 0), 0, 0), -3);
        b.is("OVER, whatever it would do", x.next(Book.number(2, 1, 1), 0, 12), -3);
        b.says(10, "NONE: no such STATE, ACT, gust (-12 .. 12, whatever the STATE's are).");
        for (int gust : Book.beyond(-12, 12)) {
            b.is("gust " + gust, x.next(115, 0, gust), -1);
            b.is("gust " + gust + " where the ACT can't be done", x.next(126, 1, gust), -1);
            b.is("gust " + gust + " OVER", x.next(Book.number(2, 0, 0), 0, gust), -1);
        }
        for (int act : Book.beyond(0, 1)) {
            b.is("ACT " + act, x.next(115, act, 0), -1);
            b.is("ACT " + act + " OVER", x.next(Book.number(2, 0, 0), act, 0), -1);
        }
        x = b.told("wide 10; fast 5; gusts 0 8 1 1; swing 0; lean lean;");
        b.is("gust -12, though there is gust 1 alone", x.next(115, 0, -12), 346);
        b.is("gust 12, though there is gust 1 alone", x.next(115, 0, 12), 346);
        b.justStates("next", "act a 0 0 if lean < 1; swing 0; lean 0;", -1, (y, s) -> y.next(s, 0, 0));
    }
}
