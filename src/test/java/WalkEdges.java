/** The edges of WALKS, BLAME, SLOTS and count: promises 34 to 38 and 40 to 42. */
final class WalkEdges {
    private static final int NO_STATE = -1000;
    private static final int NO_ARGUMENT = -2000;
    /** Leaning by gusts alone: one falls beyond 2; no ACT CAN be done AT 1 with lean 0 but the second one. */
    private static final String STEER = "rope 2; wide 2; fast 2; act up 0 1 if at != 1 or lean != 0; act st 0 0; "
        + "act l 1 0; swing 0; lean lean+gust-push;"
        + "gusts 0 1 -1 1; gusts 1 1 2 2 if lean == 1;";
    private final Book b;

    WalkEdges(Book book) {
        b = book;
    }

    void all() {
        walk();
        stand();
        beat();
        states();
        arguments();
        bothHold();
        undo();
        walked();
        blame();
        blameSafe();
        slots();
        hold();
        compare();
        count();
        countOfWalks();
    }

    private void walk() {
        b.says("Terms", "A WALK: from a STATE by BEATS (200 at most), ACTS and gusts told.");
        RopeSchool x = b.told("wide 10; fast 5; act a 0 0; act b 1 0; gusts 0 8 -1 1; swing gust; lean push;");
        x.stand(115);
        for (int i = 0; i < 200; i++) {
            int act = i / 2 % 2;
            int gust = i % 3 - 1;
            b.is("BEAT " + i, Due.beat(x, act, gust), Book.number(0, act, gust));
        }
        b.is("a 201st", Due.beat(x, 0, 0), NO_STATE);
        b.is("BEATS", x.count(9), 200);
        for (int i = 0; i < 200; i += 199) {
            b.is("its ACT", x.walked(i, 1), i / 2 % 2);
            b.is("its gust", x.walked(i, 2), i % 3 - 1);
        }
        b.is("where one stands", x.count(13), Book.number(0, 199 / 2 % 2, 199 % 3 - 1));
    }

    private void stand() {
        b.says(34, "A WALK begins at a STATE (in place of another one): true;");
        RopeSchool x = b.told(STEER);
        b.is("stand", x.stand(115), true);
        b.is("BEATS", x.count(9), 0);
        b.is("where one stands", x.count(13), 115);
        Due.beat(x, 0, 1);
        b.is("another one", x.stand(126), true);
        b.is("BEATS", x.count(9), 0);
        b.is("where one stands", x.count(13), 126);
        b.is("nothing of the other one is left", x.walked(0, 0), -100);
        b.is("undo", x.undo(), false);
        Due.beat(x, 1, 1);
        Due.beat(x, 1, 1);
        b.is("fallen", x.count(13), -2);
        b.is("another one behind a fall", x.stand(115), true);
        b.is("where one stands", x.count(13), 115);
        b.is("OVER", x.stand(Book.number(2, 2, 2)), true);
        b.is("where one stands", x.count(13), Book.number(2, 2, 2));
        b.says(34, "false: no such one.");
        b.justStates("stand", "act a 0 0;", 0, (y, s) -> y.stand(s) ? 1 : 0);
        x.stand(115);
        Due.beat(x, 0, 1);
        for (int s : new int[] {-1, 2079, Integer.MIN_VALUE, Integer.MAX_VALUE, Book.number(0, 3, 0), Book.number(3, 0,
            0)}) {
            b.is("stand " + s, x.stand(s), false);
            b.is("the WALK is as it was", x.count(9), 1);
            b.is("where one stands", x.count(13), Book.number(1, 1, 0));
        }
        x = b.told(STEER);
        b.is("no WALK", x.stand(-1), false);
        b.is("still none", x.count(9), -1);
    }

    private void beat() {
        b.says(35, "A BEAT of the WALK: the STATE then;");
        RopeSchool x = b.told(STEER);
        x.stand(115);
        b.is("the least gust", Due.beat(x, 1, -1), Book.number(0, -1, 0));
        b.is("the greatest gust", Due.beat(x, 1, 1), 115);
        b.is("push", Due.beat(x, 2, 1), 115);
        b.is("up", Due.beat(x, 0, 0), Book.number(1, 0, 0));
        b.is("the gusts of that STATE", Due.beat(x, 1, 1), Book.number(1, 1, 0));
        b.is("BEATS", x.count(9), 5);
        RopeSchool y = b.told("rope 8; wide 10; fast 5; act a 0 0; act b 0 1; act c 9 0; swing swing-push; lean lean; "
            + "gusts 0 0 -1 1; gusts 7 7 2 6;");
        y.stand(0);
        b.is("from STATE 0 and into it", Due.beat(y, 0, 1), 0);
        b.is("on", Due.beat(y, 1, -1), 231);
        b.is("no gust of STATE 231", Due.beat(y, 1, -1), NO_ARGUMENT);
        y.stand(RoundsEdges.OPEN - 1);
        b.is("into the last STATE of all", Due.beat(y, 1, 6), 2078);
        y.stand(0);
        b.is("a fall from STATE 0", Due.beat(y, 2, 0), -2);
        b.is("its blame", y.blame(), 0);
        b.says(35, "-2: the walker FELL.");
        b.is("falls", Due.beat(x, 1, 2), -2);
        b.is("the BEAT counts", x.count(9), 6);
        b.is("fallen", x.count(13), -2);
    }

    private void states() {
        b.says(35, "IllegalStateException: there is no WALK, it is OVER, fallen, or has 200 BEATS.");
        RopeSchool x = b.told(STEER);
        b.is("no WALK", Due.beat(x, 1, 0), NO_STATE);
        x.stand(115);
        x.pole(1);
        b.is("no WALK any more", Due.beat(x, 1, 0), NO_STATE);
        x.stand(Book.number(2, 0, 0));
        b.is("OVER", Due.beat(x, 1, 0), NO_STATE);
        b.is("BEATS", x.count(9), 0);
        x.stand(Book.number(1, -1, 0));
        b.is("gets OVER", Due.beat(x, 0, 0), Book.number(2, -1, 0));
        b.is("OVER", Due.beat(x, 1, 0), NO_STATE);
        b.is("BEATS", x.count(9), 1);
        x.stand(Book.number(0, 2, 0));
        b.is("falls", Due.beat(x, 1, 1), -2);
        b.is("fallen", Due.beat(x, 1, 0), NO_STATE);
        b.is("BEATS", x.count(9), 1);
        x.undo();
        x.stand(115);
        for (int i = 0; i < 199; i++) {
            Due.beat(x, 1, 0);
        }
        b.is("a 200th", Due.beat(x, 1, 0), 115);
        for (int i = 0; i < 3; i++) {
            b.is("200 BEATS", Due.beat(x, 1, 0), NO_STATE);
            b.is("BEATS", x.count(9), 200);
        }
        x.undo();
        b.is("a 200th again", Due.beat(x, 1, 1), 126);
        b.is("200 BEATS", Due.beat(x, 1, 0), NO_STATE);
        x.stand(115);
        b.is("another WALK has none", Due.beat(x, 1, 0), 115);
    }

    private void arguments() {
        b.says(35, "IllegalArgumentException: no such ACT, it can't be done, no gust of that STATE.");
        RopeSchool x = b.told(STEER);
        x.stand(346);
        for (int act : Book.beyond(0, 2)) {
            b.is("ACT " + act, Due.beat(x, act, 0), NO_ARGUMENT);
        }
        b.is("ACT 32 is not ACT 0", Due.beat(x, 33, 0), NO_ARGUMENT);
        b.is("it can't be done", Due.beat(x, 0, 0), NO_ARGUMENT);
        for (int gust : Book.beyond(-1, 1)) {
            b.is("gust " + gust, Due.beat(x, 1, gust), NO_ARGUMENT);
        }
        b.is("no BEAT came of it", x.count(9), 0);
        b.is("where one stands", x.count(13), 346);
        x.stand(Book.number(1, 1, 0));
        b.is("gust 1 is none of that STATE", Due.beat(x, 1, 1), NO_ARGUMENT);
        b.is("nor is gust 3", Due.beat(x, 1, 3), NO_ARGUMENT);
        b.is("gust 2 is", Due.beat(x, 2, 2), Book.number(1, 2, 0));
        x = b.told("act a 0 0;");
        x.stand(115);
        b.is("gust 0 alone", Due.beat(x, 0, 1), NO_ARGUMENT);
        b.is("gust 0 alone", Due.beat(x, 0, -1), NO_ARGUMENT);
        b.is("gust 0", Due.beat(x, 0, 0), 115);
        x = b.told("act a 0 0 if lean != 0;");
        x.stand(115);
        b.is("no ACT CAN be done", Due.beat(x, 0, 0), NO_ARGUMENT);
        b.is("there is no fall, though", x.count(13), 115);
    }

    private void bothHold() {
        b.says(35, "(The one named first, if both hold.)");
        RopeSchool x = b.told(STEER);
        int[][] wrong = {{3, 0}, {-1, 0}, {0, 9}, {1, -2}, {Integer.MIN_VALUE, Integer.MAX_VALUE}};
        for (int[] w : wrong) {
            b.is("no WALK", Due.beat(b.told(STEER), w[0], w[1]), NO_STATE);
            x.stand(Book.number(2, 0, 0));
            b.is("OVER", Due.beat(x, w[0], w[1]), NO_STATE);
            x.stand(Book.number(0, 2, 0));
            Due.beat(x, 1, 1);
            b.is("fallen", Due.beat(x, w[0], w[1]), NO_STATE);
        }
        x = b.told("act a 0 0; act b 0 0 if 1<1;");
        x.stand(115);
        for (int i = 0; i < 200; i++) {
            Due.beat(x, 0, 0);
        }
        b.is("200 BEATS, no such ACT", Due.beat(x, 2, 0), NO_STATE);
        b.is("200 BEATS, it can't be done", Due.beat(x, 1, 0), NO_STATE);
        b.is("200 BEATS, no gust", Due.beat(x, 0, 1), NO_STATE);
        x.undo();
        b.is("199 BEATS, no such ACT", Due.beat(x, 2, 0), NO_ARGUMENT);
    }

    private void undo() {
        b.says(36, "The last BEAT of the WALK is taken back: true;");
        RopeSchool x = b.told(STEER);
        x.stand(115);
        Due.beat(x, 0, 1);
        Due.beat(x, 0, 2);
        b.is("fallen", x.count(13), -2);
        b.is("undo of a fall", x.undo(), true);
        b.is("where one stands", x.count(13), Book.number(1, 1, 0));
        b.is("its BEAT is gone", x.walked(1, 0), -100);
        b.is("the one ahead of it is not", x.walked(0, 3), Book.number(1, 1, 0));
        b.is("undo", x.undo(), true);
        b.is("where one stands", x.count(13), 115);
        b.is("undo of none", x.undo(), false);
        x.stand(Book.number(1, -1, 0));
        Due.beat(x, 0, 0);
        b.is("undo OVER", x.undo(), true);
        b.is("one goes on", Due.beat(x, 0, 1), Book.number(2, 0, 0));
        x = b.told("act a 0 0;");
        x.stand(115);
        for (int i = 0; i < 200; i++) {
            Due.beat(x, 0, 0);
        }
        for (int i = 199; i >= 0; i--) {
            b.is("undo", x.undo(), true);
            b.is("BEATS", i % 50 == 0 ? x.count(9) : i, i);
        }
        b.says(36, "false: there is none.");
        b.is("no BEAT", x.undo(), false);
        b.is("the WALK is still there", x.count(9), 0);
        b.is("where one stands", x.count(13), 115);
        b.is("no WALK", new RopeSchool().undo(), false);
        Due.beat(x, 0, 0);
        x.pole(1);
        b.is("no WALK any more", x.undo(), false);
        b.is("no WALK", x.count(9), -1);
    }

    private void walked() {
        b.says(37, "Of the i-th BEAT: what 0 the STATE ahead of it, 1 the ACT, 2 the gust, 3 the STATE behind it (-2: "
            + "FELL);");
        RopeSchool x = b.told(STEER);
        x.stand(115);
        Due.beat(x, 2, 0);
        Due.beat(x, 0, 1);
        Due.beat(x, 1, 1);
        Due.beat(x, 0, 2);
        int[][] want = {{115, 2, 0, 104}, {104, 0, 1, 346}, {346, 1, 1, 357}, {357, 0, 2, -2}};
        for (int i = 0; i < want.length; i++) {
            for (int what = 0; what < 4; what++) {
                b.is("walked(" + i + ", " + what + ")", x.walked(i, what), want[i][what]);
            }
        }
        b.says(37, "-100: no such ones.");
        for (int i : Book.beyond(0, 3)) {
            for (int what = 0; what < 4; what++) {
                b.is("walked(" + i + ", " + what + ")", x.walked(i, what), -100);
            }
        }
        for (int what : Book.beyond(0, 3)) {
            b.is("what " + what, x.walked(0, what), -100);
        }
        x.undo();
        b.is("taken back", x.walked(3, 0), -100);
        x.stand(115);
        b.is("no BEAT", x.walked(0, 0), -100);
        b.is("no BEAT", x.walked(-1, 3), -100);
        for (int what = 0; what < 4; what++) {
            b.is("no WALK", new RopeSchool().walked(0, what), -100);
            b.is("no WALK", new RopeSchool().walked(-1, what), -100);
        }
        x = b.told("act a 0 0;");
        x.stand(115);
        for (int i = 0; i < 200; i++) {
            Due.beat(x, 0, 0);
        }
        b.is("the 200th", x.walked(199, 3), 115);
        b.is("no 201st", x.walked(200, 0), -100);
        b.is("no 201st", x.walked(200, 3), -100);
    }

    private void blame() {
        b.says("Terms", "BLAME: the first BEAT from a SAFE STATE by an ACT that is not SAFE (with it some gust of the "
            + "STATE leads to a fall or to a STATE that is not SAFE).");
        for (int fatal = -3; fatal <= 3; fatal++) {
            RopeSchool x = b.told("act a 0 0; act b 1 0; gusts 0 8 -2 2; swing 0; "
                + "lean push*9/(1+(gust-" + fatal + ")*(gust-" + fatal + ")*9);");
            boolean bad = fatal >= -2 && fatal <= 2;
            x.stand(115);
            Due.beat(x, 0, fatal < 0 ? 2 : -2);
            b.is("a SAFE ACT", x.blame(), -2);
            Due.beat(x, 1, fatal < 0 ? 2 : -2);
            b.is("gust " + fatal + " would have been a fall", x.blame(), bad ? 1 : -2);
            b.is("nobody fell", x.count(13), 115);
            Due.beat(x, 1, fatal < 0 ? 2 : -2);
            b.is("the first one", x.blame(), bad ? 1 : -2);
        }
        RopeSchool x = b.told("rope 4; act up 0 1 if at != 2; act st 0 0 if at < 2; gusts 0 8 0 1; swing 0; "
            + "lean lean;");
        x.stand(115);
        b.is("up", Due.beat(x, 0, 0), 346);
        b.is("AT 1 one can stay: SAFE", x.blame(), -2);
        b.is("stay", Due.beat(x, 1, 0), 346);
        b.is("up", Due.beat(x, 0, 0), Book.number(2, 0, 0));
        b.is("AT 2 no ACT CAN be done", x.blame(), 2);
        x.stand(Book.number(2, 0, 0));
        b.is("no BEAT", x.blame(), -2);
        x = b.told(RoundsEdges.WAY_DOWN);
        x.stand(RoundsEdges.OPEN - 3);
        Due.beat(x, 0, 0);
        Due.beat(x, 0, 0);
        b.is("from no SAFE STATE", x.blame(), -2);
        b.is("SAFE is with the POLE of now", poleBlame(1) * 10 + poleBlame(2), -20);
    }

    /** By POLE 1 the second ACT is fine; by POLE 2 it is one too many. */
    private int poleBlame(int pole) {
        RopeSchool x = b.told("wide 2; act a 0 0; act b 2 0 if lean == 0; swing 0; lean lean+push*pole;");
        x.pole(pole);
        x.stand(115);
        Due.beat(x, 1, 0);
        return x.blame();
    }

    private void blameSafe() {
        b.says(38, "BLAME's BEAT;");
        RopeSchool x = b.told("act a 0 0; act b 9 0;");
        x.stand(115);
        for (int i = 0; i < 199; i++) {
            Due.beat(x, 0, 0);
        }
        b.is("falls", Due.beat(x, 1, 0), -2);
        b.is("the 200th", x.blame(), 199);
        x.stand(115);
        Due.beat(x, 1, 0);
        b.is("the first", x.blame(), 0);
        b.says(38, "-2: there is none;");
        x.undo();
        b.is("it was taken back", x.blame(), -2);
        Due.beat(x, 0, 0);
        b.is("a SAFE ACT", x.blame(), -2);
        x.stand(Book.number(4, 0, 0));
        b.is("OVER", x.blame(), -2);
        b.says(38, "NONE: no WALK.");
        x.pole(1);
        b.is("no WALK any more", x.blame(), -1);
        b.is("no WALK", new RopeSchool().blame(), -1);
        x.stand(-1);
        b.is("no WALK", x.blame(), -1);
    }

    // ---- SLOTS ----

    private void slots() {
        b.says("Terms", "SLOTS 0 .. 2 hold SAFE STATES of a time, to be compared (by numbers; empty at first; "
            + "a new text leaves them).");
        RopeSchool x = b.told("rope 1; wide 1; fast 1; act a 0 0 if lean == 0; swing swing; lean lean;");
        for (int slot = 0; slot < 3; slot++) {
            b.is("empty at first", x.compare(slot, 0) + x.compare(slot, 2), 0);
            b.is("empty at first", x.compare(slot, 1), 3 + 9);
        }
        b.is("hold", x.hold(0), 12);
        Due.read(x, "rope 2; wide 1; fast 1; act a 0 0 if lean == 1; swing swing; lean lean;");
        b.is("hold", x.hold(1), 3 + 3 + 9);
        // AT 1 was OVER: (1, 1, ..) are SAFE in both; AT 0 lean 0, then lean 1; AT 2 now alone
        b.is("by numbers", x.compare(0, 0), 3);
        b.is("by numbers", x.compare(0, 1), 3 + 9);
        b.is("by numbers", x.compare(0, 2), 3 + 6);
        Due.read(x, "rope 9;");
        b.is("a FAULT leaves them", x.compare(0, 0), 3);
        Due.read(x, "rope 8; wide 10; fast 5; swing swing; lean lean;");
        b.is("a new text leaves them", x.compare(0, 0), 12);
        b.is("a new text leaves them", x.compare(1, 0), 15);
        b.is("all STATES are SAFE now", x.compare(2, 1), 2079);
        x.pole(3);
        b.is("a POLE leaves them", x.compare(1, 0), 15);
        x.read();
        x.learn(115);
        x.stand(115);
        x.clear();
        x.forget();
        b.is("all else leaves them", x.compare(1, 0) + x.compare(1, 2), 15);
        x = new RopeSchool();
        b.is("another object has its own", x.compare(0, 0) + x.compare(0, 2), 0);
    }

    private void hold() {
        b.says(40, "SAFE STATES of now are held in a SLOT: how many;");
        String[] texts = {"act a 0 0 if 1<1;", "rope 8; wide 10; fast 5; swing swing; lean lean;", "rope 1; wide 1; "
            + "fast 1; act a 9 0;"};
        int[] many = {13 * 7, 2079, 9};
        for (int slot = 0; slot < 3; slot++) {
            RopeSchool x = new RopeSchool();
            for (int i = 0; i < texts.length; i++) {
                Due.read(x, texts[i]);
                b.is("hold " + slot, x.hold(slot), many[i]);
                b.is("in place of what was held", x.compare(slot, 2) + x.compare(slot, 1), 0);
                b.is("they are held", x.compare(slot, 0), many[i]);
                b.is("as many as are SAFE", x.count(12), many[i]);
                for (int other = 0; other < 3; other++) {
                    b.is("the others hold none", other == slot ? 0 : x.compare(other, 0) + x.compare(other, 2), 0);
                }
            }
        }
        b.says(40, "NONE: no such SLOT.");
        RopeSchool x = b.told("swing swing; lean lean;");
        for (int slot : Book.beyond(0, 2)) {
            b.is("hold " + slot, x.hold(slot), -1);
        }
        // bits of a row of SLOTS come round again after 32
        b.is("hold 32", x.hold(32), -1);
        b.is("hold -32", x.hold(-32), -1);
        for (int slot = 0; slot < 3; slot++) {
            b.is("nothing came of it", x.compare(slot, 0), 0);
        }
    }

    private void compare() {
        b.says(41, "SAFE STATES what 0 of now and of a SLOT, 1 of now alone, 2 of the SLOT alone;");
        RopeSchool x = b.told("rope 1; wide 10; fast 5; act a 0 0 if lean < 3; swing swing; lean lean;");
        b.is("-10 .. 2", x.hold(2), 13 * 11 + 231);
        Due.read(x, "rope 1; wide 10; fast 5; act a 0 0 if 0 < lean; swing swing; lean lean;");
        b.is("1, 2", x.compare(2, 0), 2 * 11 + 231);
        b.is("3 .. 10", x.compare(2, 1), 8 * 11);
        b.is("-10 .. 0", x.compare(2, 2), 11 * 11);
        b.is("of an empty one", x.compare(0, 0), 0);
        b.is("of an empty one", x.compare(0, 1), 10 * 11 + 231);
        b.is("of an empty one", x.compare(0, 2), 0);
        Due.read(x, "rope 8; wide 10; fast 5; act a 0 0 if at+lean+swing == -15; swing swing; lean lean;");
        b.is("STATE 0 among them, those OVER elsewhere", x.compare(2, 0), 1);
        b.is("those OVER now alone", x.compare(2, 1), 231);
        b.says(41, "NONE: no such ones.");
        for (int slot : Book.beyond(0, 2)) {
            for (int what = 0; what < 3; what++) {
                b.is("compare(" + slot + ", " + what + ")", x.compare(slot, what), -1);
            }
        }
        for (int what : Book.beyond(0, 2)) {
            b.is("compare(2, " + what + ")", x.compare(2, what), -1);
            b.is("compare(0, " + what + ")", x.compare(0, what), -1);
        }
        b.is("compare(34, 0)", x.compare(34, 0), -1);
    }

    // ---- count ----

    private void count() {
        b.says(42, "0 LENGTH, 1 WIDE, 2 FAST, 3 ACTS (told or not), 4 GUSTS told, 5 reflexes, 6 the POLE, 7 "
            + "FORECASTS, 8 LEARNED ones,");
        RopeSchool x = b.told("rope 1; wide 2; fast 5;");
        int[] least = {1, 2, 5, 1, 0, 0, 1, 0, 0};
        for (int what = 0; what < least.length; what++) {
            b.is("count(" + what + ")", x.count(what), least[what]);
        }
        x = b.told("rope 8; wide 10; fast 1; swing push*9; lean lean; act a 9 0; act b 0 1; act c 0 0; act d 0 0; "
            + "act e 0 0; act f 0 0;"
            + "gusts 0 8 0 0;".repeat(8) + "reflex 1<1 do a;".repeat(12));
        x.pole(4);
        for (int i = 0; i < 24; i++) {
            x.forecast(0);
        }
        for (int lean = 0; lean < 5; lean++) {
            x.learn(Book.number(0, lean, 0));
        }
        int[] most = {8, 10, 1, 6, 8, 12, 4, 24, 40};
        for (int what = 0; what < most.length; what++) {
            b.is("count(" + what + ")", x.count(what), most[what]);
        }
        b.says(42, "10 bytes on the tape, 11 STATES, 12 SAFE ones,");
        b.is("no byte", x.count(10), 0);
        x.feed(0, 0, 0, 0, 0);
        x.back(1);
        b.is("19 bytes", x.count(10), 19);
        b.is("STATES", x.count(11), 9 * 21 * 3);
        b.is("SAFE ones", x.count(12), 9 * 21 * 3);
        x = b.told("rope 1; wide 1; fast 1; swing 9;");
        b.is("STATES", x.count(11), 18);
        b.is("SAFE ones", x.count(12), 9);
        b.says(42, "NONE for others.");
        for (int what : Book.beyond(0, 13)) {
            b.is("count(" + what + ")", x.count(what), -1);
        }
    }

    private void countOfWalks() {
        b.says(42, "9 BEATS of the WALK (NONE: no WALK),");
        RopeSchool x = b.told(STEER);
        b.is("no WALK", x.count(9), -1);
        x.stand(Book.number(0, 2, 0));
        b.is("none", x.count(9), 0);
        Due.beat(x, 1, 1);
        b.is("one, by which one fell", x.count(9), 1);
        b.says(42, "13 the STATE in which the walker stands (NONE: no WALK; -2: fallen).");
        b.is("fallen", x.count(13), -2);
        x.undo();
        b.is("stands", x.count(13), Book.number(0, 2, 0));
        x.stand(Book.number(2, 2, 2));
        b.is("stands OVER", x.count(13), Book.number(2, 2, 2));
        x.read();
        b.is("no WALK", x.count(13), -1);
        x = b.told("rope 8; wide 10; fast 5;");
        x.stand(0);
        b.is("stands in STATE 0", x.count(13), 0);
        x.stand(2078);
        b.is("stands in the last STATE", x.count(13), 2078);
    }
}
