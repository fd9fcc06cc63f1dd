/** The edges of what rounds find: FATE, REACH, BORNE, POLES; promises 11 to 19. */
final class RoundsEdges {
    /**
     * From each STATE that is not OVER one BEAT leads to the STATE of the next number: there is no longer way.
     * Behind it stand the ACTS, by which the way ends ahead of the last place, or goes on into it.
     */
    static final String WAY = "rope 8; wide 10; fast 5; swing swing+1-(swing+5)/10*11;"
        + "lean lean+(5-swing)/10-(lean+10)/20*21*((5-swing)/10); act st 0 0 if lean != 10 or swing != 5; "
            + "act up 0 1 if lean == 10 and swing == 5";
    static final String WAY_DOWN = WAY + " and at != 7;";
    static final String WAY_OVER = WAY + ";";
    /** How many STATES of that ROPE are not OVER. */
    static final int OPEN = 8 * 231;
    /** One who goes by the first ACT may have to rest; by the second one never. */
    private static final String RISK = "rope 3; wide 1; fast 1; act risky 1 1 if lean == 0; act sure 0 1 if lean == 0;"
        + "act rest 0 0 if lean == 1; gusts 0 8 0 1; swing 0; lean push*gust;";
    private final Book b;

    RoundsEdges(Book book) {
        b = book;
    }

    void all() {
        standing();
        fate();
        keep();
        reach();
        lead();
        safe();
        edge();
        doom();
        borne();
        borneFurther();
        poles();
    }

    private void standing() {
        b.says("Terms", "STANDING n BEATS from a STATE: n 0, or it is OVER, or there is an ACT that CAN be done with "
            + "which,"
            + " whatever gust of that STATE comes, the walker does not fall and can stand n - 1 BEATS from there.");
        b.is("no ACT CAN be done", b.told("act a 0 0 if 1<1;").fate(115), 0);
        b.is("the ACT with which one stands can't be done", b.told("act a 9 0; act b 0 0 if 1<1;").fate(115), 0);
        b.is("it CAN be done", b.told("act a 9 0; act b 0 0 if 1<2;").fate(115), -2);
        RopeSchool x = b.told("rope 1; wide 1; fast 1; act a 9 0;");
        b.is("not OVER", x.fate(115), 0);
        b.is("OVER, whatever would be", x.fate(Book.number(1, 1, 1)), -2);
        for (int fatal = -3; fatal <= 3; fatal++) {
            // 9 / 1 is a fall, 9 / 10 is none
            x = b.told("act a 0 0; gusts 0 8 -2 2; swing 0; lean 9/(1+(gust-" + fatal + ")*(gust-" + fatal + ")*9);");
            b.is("gust " + fatal + " alone makes one fall", x.fate(115), fatal >= -2 && fatal <= 2 ? 0 : -2);
        }
        x = b.told("act a 0 0; act b 1 0; gusts 0 8 0 1; swing 0; lean 9*gust+push*(8-17*gust);");
        b.is("each ACT falls by a gust of its own", x.fate(115), 0);
    }

    private void fate() {
        b.says("Terms", "FATE: the greatest such n, or for ever: the STATE is SAFE.");
        RopeSchool x = b.told(WAY_DOWN);
        for (int s = 0; s < OPEN; s += s < 1840 ? 8 : 1) {
            b.is("fate of " + s, x.fate(s), OPEN - 1 - s);
        }
        b.is("fate of the last one", x.fate(OPEN - 1), 0);
        b.is("fate OVER", x.fate(OPEN), -2);
        x = b.told(WAY_OVER);
        b.is("the same way, but it ends OVER", x.fate(0), -2);
        x = b.told("wide 10; fast 5; act a 0 0; swing 0; lean lean+1-(lean+10)/20*21;");
        b.is("round and round", x.fate(115), -2);
        x = b.told("wide 10; fast 5; act a 1 0; act b 0 0 if lean == 3; act c 2 0; swing 0; lean lean+push;");
        b.is("past the one that is SAFE", x.fate(Book.number(0, 4, 0)), 6);
        b.is("to the one that is SAFE", x.fate(Book.number(0, -10, 0)), -2);
        x = b.told("wide 10; fast 5; act a 2 0; act b 1 0; act c 3 0; swing 0; lean lean+push;");
        for (int lean = -10; lean <= 10; lean++) {
            b.is("the greatest n from lean " + lean, x.fate(Book.number(0, lean, 0)), 10 - lean);
        }
        RopeSchool down = b.told("wide 10; fast 5; act a -2 0; act b -1 0; act c -3 0; swing 0; lean lean+push;");
        for (int lean = -10; lean <= 10; lean++) {
            b.is("the other way from lean " + lean, down.fate(Book.number(0, lean, 0)), 10 + lean);
        }
        b.says(11, "FATE;");
        b.is("0", x.fate(Book.number(0, 10, 0)), 0);
        b.is("1", x.fate(Book.number(3, 9, 5)), 1);
        b.says(11, "-2: for ever;");
        b.is("OVER", x.fate(Book.number(4, 10, -5)), -2);
        b.says(11, "NONE: no such STATE.");
        b.justStates("fate", "act a 0 0 if lean < 1; act b 0 1 if lean == 1;", -1, (y, s) -> y.fate(s));
    }

    private void keep() {
        b.says("Terms", "KEEP: the first ACT with which FATE is kept (all STATES then have one less at least, SAFE "
            + "ones are SAFE;");
        RopeSchool x = b.told("wide 10; fast 5; act a 2 0; act b 1 0; act c 1 0; swing 0; lean lean+push;");
        for (int lean = -10; lean <= 9; lean++) {
            b.is("one less at least, lean " + lean, x.keep(Book.number(0, lean, 0)), 1);
        }
        x = b.told("wide 10; fast 5; act a 1 0; act b 1 0; act c 2 0; swing 0; lean lean+push;");
        b.is("the first of several", x.keep(115), 0);
        // the gust makes it 1 or 2: what is left at the worst counts
        x = b.told("wide 10; fast 5; act a 1 0; act b 2 0; gusts 0 8 0 1; swing 0; lean lean+push+gust*(2-push)*2;");
        b.is("fate by 2 at the worst", x.fate(115), 5);
        b.is("keep by 2 at the worst", x.keep(115), 1);
        x = b.told("act up 0 1 if at == 0; act st 0 0 if at == 0; act dr 1 0 if at == 1; swing 0; lean lean+push;");
        b.is("the first ACT leads to a FATE", x.fate(346), 6);
        b.is("SAFE ones are SAFE", x.keep(115), 1);
        x = b.told("act a 0 0; act b 0 1; gusts 0 8 0 1; swing 0; lean lean+gust*(lean-1)*(lean-1); rope 1;");
        b.is("SAFE by the first one", x.keep(Book.number(0, 1, 0)), 0);
        x = b.told(WAY_DOWN);
        b.is("keep of the greatest FATE", x.keep(0), 0);
        b.is("keep where only the second one CAN be done", x.keep(230), 1);
        b.says("Terms", "of FATE 0: that CAN be done).");
        x = b.told("act a 0 0 if 1<1; act b 9 0; act c -9 0;");
        b.is("fate", x.fate(115), 0);
        b.is("keep", x.keep(115), 1);
        x = b.told("wide 10; fast 5; act a 2 0; act b 1 0; act c 3 0; swing 0; lean lean+push;");
        b.is("all fall", x.keep(Book.number(0, 10, 0)), 0);
        b.is("all fall from STATE 0", b.told("rope 8; wide 10; fast 5; act n 0 0 if lean == 0; act a 9 0; "
            + "act b 9 0;").keep(0), 1);
        b.is("all fall from the last that is not OVER", b.told("rope 8; wide 10; fast 5; act a 9 0; "
            + "act b 9 0;").keep(OPEN - 1), 0);
        b.says(12, "KEEP;");
        b.is("keep", x.keep(115), 1);
        b.says(12, "-2: no ACT CAN be done, it is OVER;");
        b.is("OVER", x.keep(Book.number(4, 0, 0)), -2);
        x = b.told("act a 0 0 if 0 < lean; act b 0 0 if lean < 0;");
        b.is("no ACT CAN be done", x.keep(115), -2);
        b.is("its FATE", x.fate(115), 0);
        b.is("one CAN be done", x.keep(126), 0);
        b.is("another one CAN be done", x.keep(104), 1);
        b.says(12, "NONE: no such STATE.");
        b.justStates("keep", "act a 0 0 if lean < 1; act b 0 1 if lean == 1;", -1, (y, s) -> y.keep(s));
    }

    private void reach() {
        b.says("Terms", "REACH: the fewest BEATS after which, whatever gusts come, the walker is OVER at the latest, "
            + "if the best ACTS are done;");
        RopeSchool x = b.told(WAY_OVER);
        for (int s = 0; s < OPEN; s += s < 1840 ? 8 : 1) {
            b.is("reach of " + s, x.reach(s), OPEN - s);
        }
        x = b.told("rope 4; act up 0 1 if lean == 0; act st 0 0 if lean == 1; gusts 1 1 0 1; swing 0; lean gust;");
        b.is("AT 2", x.reach(Book.number(2, 0, 0)), 2);
        b.is("AT 2 with a rest", x.reach(Book.number(2, 1, 0)), 3);
        b.is("at the latest", x.reach(Book.number(1, 0, 0)), 4);
        b.is("at the latest, from the start", x.reach(115), 5);
        b.is("a rest that may be followed by another one", x.reach(Book.number(1, 1, 0)), -2);
        x = b.told(RISK);
        for (int at = 0; at <= 3; at++) {
            b.is("by the best ACTS, AT " + at, x.reach(Book.number(at, 0, 0)), 3 - at);
            b.is("with a rest, AT " + at, x.reach(Book.number(at, 1, 0)), at == 3 ? 0 : 4 - at);
        }
        b.says(13, "REACH;");
        b.is("OVER", x.reach(Book.number(3, 1, 1)), 0);
        b.is("one ahead of it", x.reach(Book.number(2, 0, 0)), 1);
        b.is("the greatest one", b.told(WAY_OVER).reach(0), OPEN);
        b.says(13, "-2: it can't be;");
        b.is("no ACT CAN be done", x.reach(Book.number(0, -1, 0)), -2);
        b.is("one falls on the way", b.told(WAY_DOWN).reach(0), -2);
        x = b.told("act st 0 0; act dn 0 -1;");
        b.is("SAFE, but for ever here", x.reach(115), -2);
        b.is("its FATE", x.fate(115), -2);
        x = b.told("rope 1; act up 0 1 if lean == 0; act st 0 0 if lean == 1; gusts 0 8 0 1; swing 0; lean gust;");
        b.is("gusts may hold one for ever", x.reach(126), -2);
        b.is("its FATE", x.fate(126), -2);
        b.says(13, "NONE: no such STATE.");
        b.justStates("reach", "act a 0 0 if lean < 1; act b 0 1 if lean == 1; lean lean;", -1, (y, s) -> y.reach(s));
    }

    private void lead() {
        b.says("Terms", "LEAD: the first ACT by which that is so (STATES then have less).");
        RopeSchool x = b.told(RISK);
        b.is("one ahead of it both do", x.lead(Book.number(2, 0, 0)), 0);
        b.is("earlier the second one alone does", x.lead(Book.number(1, 0, 0)), 1);
        b.is("from the start", x.lead(115), 1);
        b.is("with a rest", x.lead(126), 2);
        x = b.told("rope 3; act st 0 0; act dn 0 -1; act up 0 1; act ub 0 1;");
        b.is("the first of several", x.lead(115), 2);
        b.says(14, "LEAD;");
        b.is("lead on the longest way", b.told(WAY_OVER).lead(0), 0);
        b.is("lead on the longest way", b.told(WAY_OVER).lead(OPEN - 1), 1);
        b.says(14, "-2: there is no REACH, it is OVER;");
        b.is("OVER", x.lead(Book.number(3, 0, 0)), -2);
        b.is("no REACH: one falls", x.lead(Book.number(0, 6, 3)), -2);
        b.is("no REACH: no ACT CAN be done", b.told(RISK).lead(Book.number(0, -1, 0)), -2);
        b.is("no REACH: one stays", b.told("act st 0 0;").lead(115), -2);
        b.says(14, "NONE: no such STATE.");
        b.justStates("lead", "act a 0 0 if lean < 1; act b 0 1 if lean == 1; lean lean;", -1, (y, s) -> y.lead(s));
    }

    private void safe() {
        b.says(15, "How many STATES AT a place are SAFE;");
        RopeSchool x = b.told("rope 8; wide 10; fast 5; act a 0 0 if lean == 10 and at == 7 or at == 0; "
            + "act b 0 1 if swing == 5 and at == 6; swing swing; lean lean;");
        int[] want = {231, 0, 0, 0, 0, 0, 1, 11, 231};
        for (int at = 0; at <= 8; at++) {
            b.is("safe(" + at + ")", x.safe(at), want[at]);
        }
        b.is("SAFE ones in all", x.count(12), 231 + 1 + 11 + 231);
        x = b.told("rope 1; wide 1; fast 1; act a 0 0 if 1<1;");
        b.is("none", x.safe(0), 0);
        b.is("all OVER", x.safe(1), 9);
        b.says(15, "NONE: no such place.");
        for (int at : Book.beyond(0, 1)) {
            b.is("safe(" + at + ")", x.safe(at), -1);
        }
        x = b.told("rope 8;");
        for (int at : Book.beyond(0, 8)) {
            b.is("safe(" + at + ")", x.safe(at), -1);
        }
    }

    private void edge() {
        b.says(16, "The least (most: the greatest) LEAN of SAFE STATES with AT and SWING;");
        RopeSchool x = b.told("rope 8; wide 10; fast 5; swing swing; lean lean; "
            + "act a 0 0 if swing == -5 and (lean+3)*(lean-2)*(lean-4) == 0;"
            + "act b 0 0 if swing == 5 and lean == -10; act c 0 0 if swing == 4 and lean == 10; "
                + "act d 0 0 if swing == 3; act e 0 0 if at == 7 and lean*swing == 30/5;");
        b.is("with gaps", x.edge(0, -5, false), -3);
        b.is("with gaps", x.edge(7, -5, true), 4);
        b.is("the least one alone", x.edge(0, 5, false), -10);
        b.is("the least one alone", x.edge(0, 5, true), -10);
        b.is("the greatest one alone", x.edge(0, 4, false), 10);
        b.is("the greatest one alone", x.edge(0, 4, true), 10);
        b.is("all", x.edge(5, 3, false), -10);
        b.is("all", x.edge(5, 3, true), 10);
        b.is("AT 7", x.edge(7, 2, true), 3);
        b.is("AT 7", x.edge(7, -2, false), -3);
        b.is("OVER", x.edge(8, 0, false), -10);
        b.is("OVER", x.edge(8, 0, true), 10);
        b.is("0 alone", b.told("rope 1; wide 1; fast 1; act a 0 0 if lean == 0; swing 0; "
            + "lean lean;").edge(0, 1, true), 0);
        b.says(16, "-100: there is none, no such ones.");
        b.is("there is none", x.edge(0, 0, false), -100);
        b.is("there is none", x.edge(0, 0, true), -100);
        b.is("there is none AT 6", x.edge(6, 2, true), -100);
        for (int at : Book.beyond(0, 8)) {
            b.is("AT " + at, x.edge(at, 3, true), -100);
            b.is("AT " + at, x.edge(at, 3, false), -100);
        }
        for (int swing : Book.beyond(-5, 5)) {
            b.is("SWING " + swing, x.edge(8, swing, true), -100);
            b.is("SWING " + swing, x.edge(8, swing, false), -100);
        }
        x = b.told("rope 1; wide 1; fast 1;");
        b.is("SWING 2 of FAST 1", x.edge(1, 2, true), -100);
        b.is("AT 2 of LENGTH 1", x.edge(2, 0, true), -100);
    }

    private void doom() {
        b.says(17, "The greatest FATE of those that are not SAFE;");
        b.is("the longest way", b.told(WAY_DOWN).doom(), OPEN - 1);
        b.is("all fall at once", b.told("swing 9;").doom(), 0);
        b.is("one STATE alone falls, the first one", b.told("rope 8; wide 10; fast 5; "
            + "act a 0 0 if at+lean+swing != -15; swing swing; lean lean;").doom(), 0);
        b.is("one STATE alone falls, the last that is not OVER",
            b.told("rope 8; wide 10; fast 5; act a 0 0 if at+lean+swing != 22; swing swing; lean lean;").doom(), 0);
        b.says(17, "NONE: all are SAFE.");
        b.is("all stay", b.told("act a 0 0; swing swing; lean lean;").doom(), -1);
        b.is("all get OVER", b.told(WAY_OVER).doom(), -1);
        RopeSchool x = b.told("swing 9;");
        b.is("ahead of another text", x.doom(), 0);
        Due.read(x, "swing 0; lean 0;");
        b.is("behind it", x.doom(), -1);
    }

    private void borne() {
        b.says("Terms", "BORNE: the greatest k of 0 .. 6 so that the STATE is SAFE if all gusts c .. d are c - k .. d "
            + "+ k (0 alone: -k .. k).");
        for (int wide = 1; wide <= 10; wide++) {
            String start = "wide " + wide + "; act a 0 0; swing 0; lean ";
            b.is("0 alone, wide " + wide, b.told(start + "gust;").borne(115), Math.min(wide, 6));
            b.is("0 alone, twice, wide " + wide, b.told(start + "gust*2;").borne(115), wide / 2);
            b.is("0 .. 0 told, wide " + wide, b.told(start + "gust; gusts 0 8 0 0;").borne(115), Math.min(wide, 6));
            int left = wide < 2 ? -2 : Math.min(wide - 2, 6);
            b.is("1 .. 2, wide " + wide, b.told(start + "gust; gusts 0 8 1 2;").borne(115), left);
            b.is("-2 .. -1, wide " + wide, b.told(start + "gust; gusts 0 8 -2 -1;").borne(115), left);
            b.is("-6 .. 6, wide " + wide, b.told(start + "gust; gusts 0 8 -6 6;").borne(115), wide < 6 ? -2 : wide - 6);
        }
        b.is("-12 .. 12 is borne", b.told("wide 10; act a 0 0; swing 0; lean gust*5/6; gusts 0 8 -6 6;").borne(115), 6);
        b.is("only gusts below", b.told("wide 10; act a 0 0; swing 0; lean gust*(gust-9)/9; "
            + "gusts 0 8 0 0;").borne(115), 6);
    }

    private void borneFurther() {
        RopeSchool x = b.told("rope 2; wide 5; act up 0 1; gusts 1 1 3 3; swing 0; lean gust;");
        b.is("what comes further on counts", x.borne(115), 2);
        b.is("AT 1", x.borne(346), 2);
        x = b.told("rope 2; wide 5; act up 0 1; act st 0 0; gusts 1 1 3 3; swing 0; lean gust;");
        b.is("if one has to go there", x.borne(115), 5);
        x = b.told("wide 10; act a 0 0 if at == 0; swing 0; lean lean/2+gust; gusts 0 8 -1 1 if 2 < lean; "
            + "gusts 0 8 2 2 if lean < -2;");
        // 10 / 2 + 1 + k, and -10 / 2 - .. : 5 + 1 + 4 is 10
        b.is("gusts of other STATES", x.borne(115), 4);
        for (int most = 1; most <= 6; most++) {
            x = b.told("wide 10; act a 0 0 if lean < " + most + " and -" + most + " < lean; swing 0; lean gust;");
            b.is("gust " + most + " leads to where no ACT CAN be done", x.borne(115), most - 1);
        }
        // lean 1 leads to -1, that to 0, and from there any gust but 0 is a fall
        x = b.told("rope 1; wide 1; fast 1; act a 0 0; swing 0; lean lean-2+(1-lean)*3/2+(1-lean*lean)*gust*9;");
        for (int lean = -1; lean <= 1; lean++) {
            b.is("a fall by gust 1 two BEATS on", x.borne(Book.number(0, lean, 1)), 0);
        }
        x = b.told("rope 8; wide 10; fast 5; act a 0 0; swing 0; lean lean+gust*(lean+3)/12; gusts 0 0 0 0;");
        b.is("what was asked for first is not all: the lesser one", x.borne(Book.number(0, 10, 0)), 0);
        b.is("then the greatest one", x.borne(Book.number(0, -3, 0)), 6);
        // 3 * 3 / 12 is 0, 4 * 3 / 12 is 1, and from there on it is ever more
        b.is("then one between", x.borne(115), 3);
        x = b.told("wide 6; swing 0; lean gust*push; act a 1 0 if lean < 0; act b 2 0 if 0 < lean; "
            + "act c 3 0 if lean == 0; act d 0 0 if lean == 6;");
        b.is("lean 0: 3 * 2 is 6, 3 * 3 is 9", x.borne(115), 2);
        x = b.told("rope 8; wide 10; fast 5; act a 1 0; swing 0; lean lean+gust*at; act b 0 1 if at == 7;");
        for (int at = 7; at >= 0; at--) {
            x.reach(115);
            x.poles(115);
            b.is("gusts grow with AT " + at, x.borne(Book.number(at, 0, 0)), at == 0 ? 6 : at == 7 ? 1 : 0);
        }
        x = b.told("wide 10; act a 0 0 if pole == 1 and lean < 3; act b 0 0 if pole == 2; swing swing; lean lean;");
        b.is("other POLES are asked for", x.poles(Book.number(0, 3, 0)), 2);
        b.is("then what is BORNE with this one", x.borne(115), 6);
        x = b.told("wide 10; act a 0 0 if 5 < lean; swing 0; lean lean+gust*20;");
        b.is("FATE is asked for", x.fate(115), 0);
        b.is("then REACH", x.reach(115), -2);
        b.is("then what is BORNE", x.borne(Book.number(3, 10, 3)), 0);
        x = b.told("rope 8; wide 10; fast 5; act a 0 0; swing swing; lean lean;");
        b.is("STATE 0", x.borne(0), 6);
        b.is("the last STATE that is not OVER", x.borne(OPEN - 1), 6);
        b.is("the last STATE", x.borne(2078), 6);
        b.is("a new object, three BEATS", new RopeSchool().borne(Book.number(1, 0, 0)), 1);
        b.is("a new object, two BEATS", new RopeSchool().borne(Book.number(2, 0, 0)), 1);
        b.is("a new object, one BEAT", new RopeSchool().borne(Book.number(3, 0, 0)), 3);
        b.is("a new object, OVER", new RopeSchool().borne(Book.number(4, 0, 0)), 6);
        b.is("a new object, one falls", new RopeSchool().borne(Book.number(0, 6, 3)), -2);
        b.says(18, "BORNE;");
        b.is("6", b.told("act a 0 0; swing 0; lean lean;").borne(115), 6);
        b.is("0", b.told("wide 1; act a 0 0; swing 0; lean gust*2;").borne(115), 0);
        b.is("OVER", b.told("rope 1; wide 1; act a 0 0; swing 0; lean gust*2;").borne(Book.number(1, 1, 0)), 6);
        b.says(18, "-2: it is not SAFE;");
        b.is("one falls", b.told("swing 9;").borne(115), -2);
        b.is("one falls at last", b.told(WAY_DOWN).borne(0), -2);
        x = b.told("wide 3; act a 0 0; swing 0; lean 2+pole-gust*0;");
        b.is("POLE 1", x.borne(115), 6);
        x.pole(2);
        b.is("POLE 2", x.borne(115), -2);
        b.says(18, "NONE: no such STATE.");
        b.justStates("borne", "act a 0 0 if lean < 1; act b 0 1 if lean == 1; lean lean;", -1, (y, s) -> y.borne(s));
    }

    private void poles() {
        b.says("Terms", "POLES: the least POLE with which it is SAFE.");
        String[] conds = {"pole == 1", "pole == 2", "pole == 3", "pole == 4", "2 <= pole", "pole == 2 or pole == 4",
            "pole != 1 and pole != 2", "1 == 1", "1 == 2", "4 < pole", "pole < 1"};
        int[] want = {1, 2, 3, 4, 2, 2, 3, 1, -2, -2, -2};
        for (int i = 0; i < conds.length; i++) {
            for (int p = 1; p <= 4; p++) {
                RopeSchool x = b.told("act a 0 0 if " + conds[i] + ";");
                x.pole(p);
                x.stand(115);
                long safe = x.count(12);
                b.is(conds[i] + ", POLE " + p, x.poles(115), want[i]);
                b.is("the POLE stays", x.count(6), p);
                b.is("the WALK stays", x.count(13), 115);
                b.is("SAFE ones stay", x.count(12), safe);
                RopeSchool same = b.told("act a 0 0 if " + conds[i].replace("pole", "" + p) + ";");
                b.is("what CAN be done stays", x.can(126, 0), same.can(126, 0));
            }
        }
        b.is("by a law", b.told("act a 0 0; fast 1; swing 6-2*pole; lean 0;").poles(115), 3);
        b.is("POLE 1 has the second ACT for a while, POLE 2 the first one alone",
            b.told("act a 0 0 if pole == 2; act b 0 1 if at == 0 and pole == 1;").poles(115), 2);
        RopeSchool z = b.told("rope 1; wide 1; fast 1; act a 0 0 if lean != 0; swing 0; lean lean-2+(1-lean)*3/2;");
        for (int lean = -1; lean <= 1; lean++) {
            b.is("no ACT CAN be done two BEATS on", z.poles(Book.number(0, lean, 1)), -2);
        }
        z = b.told("rope 8; wide 10; fast 5; act a 0 0 if at+lean+swing == -15 and pole == 2 or at+lean+swing == 22 "
            + "and pole == 3; swing swing; lean lean;");
        b.is("STATE 0", z.poles(0), 2);
        b.is("the last STATE that is not OVER", z.poles(OPEN - 1), 3);
        b.is("one between", z.poles(115), -2);
        b.is("by gusts", b.told("act a 0 0; wide 3; swing 0; lean gust; gusts 0 8 4 4; "
            + "gusts 0 8 3 3 if pole == 4;").poles(115), 4);
        RopeSchool x = b.told("rope 2; wide 2; fast 2; act l 1 0; act r -1 0; act go 0 1; gusts 0 1 0 1;");
        b.is("learn", x.learn(115), 5);
        b.is("POLE 1 does", x.poles(115), 1);
        b.is("LEARNED stay", x.count(8), 5);
        x.hold(0);
        b.is("POLE 2 is wanted", x.poles(138), 2);
        b.is("SAFE ones stay", x.compare(0, 1) + x.compare(0, 2), 0);
        b.is("its FATE with POLE 1", x.fate(138), 0);
        x.pole(2);
        b.is("its FATE with POLE 2", x.fate(138), -2);
        b.says(19, "POLES;");
        b.is("OVER", b.told("act a 0 0 if 1<1;").poles(Book.number(4, 6, 3)), 1);
        b.is("4", b.told("act a 0 0 if pole == 4;").poles(115), 4);
        b.says(19, "-2: with none;");
        b.is("no ACT CAN be done", b.told("act a 0 0 if 1<1;").poles(115), -2);
        b.is("one falls at last", b.told(WAY_DOWN).poles(0), -2);
        b.says(19, "NONE: no such STATE.");
        b.justStates("poles", "act a 0 0 if lean < 1; act b 0 1 if lean == 1; lean lean;", -1, (y, s) -> y.poles(s));
    }
}
