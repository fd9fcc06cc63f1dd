/** Promises 1 to 5: a new object, the tape, reading and its FAULTS. */
public final class TextTests {
    private static final Due DUE = new Due();

    private static String times(String part, int n) {
        return part.repeat(n);
    }

    /** A new object reads a text: the FAULT and its place. */
    private static void fault(String text, int fault, int place) {
        RopeSchool x = new RopeSchool();
        String shown = text.length() > 60 ? text.substring(0, 60) + ".." : text;
        DUE.is("read of " + shown, Due.read(x, text), fault);
        DUE.is("place of " + shown, x.place(), place);
    }

    private static void fine(String text) {
        fault(text, 0, -1);
    }

    private static void newObject() {
        RopeSchool x = new RopeSchool();
        int[] counts = {4, 6, 3, 1, 0, 0, 1, 0, 0, -1, 0, 5 * 13 * 7};
        for (int i = 0; i < counts.length; i++) {
            DUE.is("new count(" + i + ")", x.count(i), counts[i]);
        }
        DUE.is("new count(13)", x.count(13), -1);
        DUE.is("new place", x.place(), -1);
        for (int slot = 0; slot < 3; slot++) {
            DUE.is("new compare(" + slot + ", 2)", x.compare(slot, 2), 0);
            DUE.is("new compare(" + slot + ", 0)", x.compare(slot, 0), 0);
        }
        DUE.is("next by the act that is there without one told", x.next(115, 0, 0), 346);
        DUE.is("new gust", x.gust(115, true), 0);
    }

    private static void feedAndBack() {
        RopeSchool x = new RopeSchool();
        for (int i = 1; i <= 100; i++) {
            DUE.is("feed " + i, x.feed(0x20202020, 0x20202020, 0x20202020, 0x20202020, 0x20202020), 20 * i);
        }
        DUE.is("feed beyond 2000", x.feed(0, 0, 0, 0, 0), -1);
        DUE.is("bytes then", x.count(10), 2000);
        DUE.is("back(19)", x.back(19), 1981);
        DUE.is("feed beyond 2000", x.feed(0, 0, 0, 0, 0), -1);
        DUE.is("back(1)", x.back(1), 1980);
        DUE.is("feed up to 2000", x.feed(0x20202020, 0x20202020, 0x20202020, 0x20202020, 0x20202020), 2000);
        DUE.is("back(-1)", x.back(-1), -1);
        DUE.is("back(least)", x.back(Integer.MIN_VALUE), -1);
        DUE.is("back(2001)", x.back(2001), -1);
        DUE.is("back(0)", x.back(0), 2000);
        DUE.is("read of blanks", x.read(), 0);
        DUE.is("bytes after read", x.count(10), 0);
        DUE.is("back(1) of none", x.back(1), -1);
        DUE.is("back(0) of none", x.back(0), 0);
        x.feed(0x726f7065, 0x20333b20, 0x20202020, 0x20202020, 0x202020ff);
        DUE.is("read with byte 255", x.read(), 1);
        DUE.is("place of byte 255", x.place(), 19);
        DUE.is("bytes after a FAULT", x.count(10), 0);
        DUE.is("LENGTH after a FAULT", x.count(0), 4);
    }

    private static void readChanges() {
        RopeSchool x = new RopeSchool();
        DUE.is("read", Due.read(x, "rope 3; rope 2; wide 2; fast 2; act l 1 0; act r -1 0; act go 0 1; gusts 0 1 0 1;"), 0);
        DUE.is("the last rope told", x.count(0), 2);
        DUE.is("learn", x.learn(115), 5);
        x.stand(115);
        x.forecast(1);
        DUE.is("a FAULT", Due.read(x, "rope 3; rope"), 1);
        DUE.is("place at the end", x.place(), 12);
        DUE.is("LENGTH stays", x.count(0), 2);
        DUE.is("LEARNED stay", x.count(8), 5);
        DUE.is("FORECASTS stay", x.count(7), 1);
        DUE.is("the WALK stays", x.count(9), 0);
        x.pole(3);
        x.learn(115);
        x.stand(115);
        DUE.is("an empty text", x.read(), 0);
        DUE.is("place without a FAULT", x.place(), -1);
        int[] counts = {4, 6, 3, 1, 0, 0, 1, 0, 0, -1, 0};
        for (int i = 0; i < counts.length; i++) {
            DUE.is("count(" + i + ") of an empty text", x.count(i), counts[i]);
        }
    }

    private static void tokens() {
        fine("\t\n\r rope\t4\n;\r");
        fine("rope4;wide6;fast3;act abc1 0;");
        fault("actabc 1 0;", 1, 0);
        fine("act abcdefgh 0000 0001;");
        fault("act abcdefghi 0 0;", 1, 4);
        fault("rope 00004;", 1, 5);
        fault("rope 4; ropes 4;", 1, 8);
        fault("Rope 4;", 1, 0);
        fault("rope 4\f;", 1, 6);
        fault("rope 4.", 1, 6);
        fault("lean 1 = 1;", 1, 7);
        fault("act a 0 0 if 1 = 1;", 1, 15);
        fault("act a 0 0 if 1 ! 1;", 1, 15);
        fault("act a 0 0 if 1 > 1;", 1, 15);
        fault("act a 0 0 if 1 === 1;", 1, 17);
        fault("act a 0 0 if 1 <== 1;", 1, 17);
        fault("act a 0 0 if 1 < = 1;", 1, 17);
        fine("act a 0 0 if 1<=1 and 1<1 or 1==1 and 1!=1;");
        for (String word : new String[] {"rope", "wide", "fast", "swing", "lean", "act", "if", "gusts", "reflex",
                "do", "or", "and", "not", "at", "push", "gust", "pole"}) {
            fault("act " + word + " 0 0;", 1, 4);
        }
        fine("act ropes 0 0; act atlean 0 0;");
    }

    private static void syntax() {
        fault(";", 1, 0);
        fault("x", 1, 0);
        fault("rope;", 1, 4);
        fault("rope 4", 1, 6);
        fault("rope 4  ", 1, 8);
        fault("rope -4;", 1, 5);
        fault("rope 4 4;", 1, 7);
        fault("act a 1;", 1, 7);
        fault("act a - - 1 0;", 1, 8);
        fault("act a + 1 0;", 1, 6);
        fault("act a 0 0 if;", 1, 12);
        fault("act a 0 0 if lean;", 1, 17);
        fault("act a 0 0 if (lean<1);", 1, 18);
        fault("act a 0 0 if lean<1<2;", 1, 19);
        fault("act a 0 0 if lean<1 do a;", 1, 20);
        fault("act a 0 0 if lean not <1;", 1, 18);
        fault("act a 0 0 if and lean<1;", 1, 13);
        fault("act a 0 0 if lean<1 or;", 1, 22);
        fault("gusts -1 2 0 0;", 1, 6);
        fault("gusts 1 2 0;", 1, 11);
        fault("reflex lean<1 if a;", 1, 14);
        fault("reflex lean<1;", 1, 13);
        fault("reflex lean<1 do;", 1, 16);
        fault("reflex do a;", 1, 7);
        fault("swing ;", 1, 6);
        fault("swing lean<1;", 1, 10);
        fault("swing (lean;", 1, 11);
        fault("swing lean);", 1, 10);
        fault("swing ();", 1, 7);
        fault("swing lean+*1;", 1, 11);
        fault("swing 1 2;", 1, 8);
        fault("swing x;", 1, 6);
        fault("swing not 1;", 1, 6);
        fine("swing -(-lean)--1+-(2)*-3/-4;");
        fine("act a 0 0; reflex not not at<1 and not lean==1 or swing!=2 do a;");
    }

    private static void room() {
        fine("swing " + times("(", 6) + "1" + times(")", 6) + "+" + times("(", 6) + "1" + times(")", 6) + ";");
        fault("swing " + times("(", 7) + "1" + times(")", 7) + ";", 2, 12);
        fault("swing (1)+" + times("(", 7), 2, 16);
        fine(times("rope 4;", 133));
        fault(times("rope 4;", 133) + "swing", 1, 133 * 7 + 5);
        fault(times("rope 4;", 133) + "rope 4;", 2, 133 * 7 + 5);
        fault(times("rope 4;", 133) + "rope;", 1, 133 * 7 + 4);
        fault(times("rope 4;", 133) + "rope ?", 1, 133 * 7 + 5);
        fine("swing " + times("-", 397) + "1;");
        fault("swing " + times("-", 398) + "1;", 2, 6 + 399);
        fault("swing " + times("-", 399) + "1;", 2, 6 + 399);
        fault("swing " + times("-", 399) + ";", 1, 6 + 399);
        fine("act a 0 0 if " + times("not ", 390) + "1<1;");
        fine("swing " + times("1+", 198) + "1;");
        fault("swing " + times("1+", 199) + "1;", 2, 6 + 399);
        StringBuilder acts = new StringBuilder();
        for (int i = 0; i < 6; i++) {
            acts.append("act a").append((char) ('a' + i)).append(" 0 0;");
        }
        fine(acts.toString());
        fault(acts + "act zz 0 0;", 2, acts.length());
        fault(acts + " act ;", 2, acts.length() + 1);
        fine(times("gusts 0 1 0 0;", 8));
        fault(times("gusts 0 1 0 0;", 9), 2, 8 * 14);
        fine("act a 0 0;" + times("reflex 1<2 do a;", 12));
        fault("act a 0 0;" + times("reflex 1<2 do a;", 13), 2, 10 + 12 * 16);
        fault("act a 0 0; act a 0 0; rope 0; swing ((((((((;", 2, 42);
    }

    private static void meaning() {
        fault("act a 0 0; act b 0 0; act a 0 0;", 3, 26);
        fault("reflex 1<2 do a; act a 0 0;", 4, 14);
        fault("act a 0 0; reflex 1<2 do b;", 4, 25);
        fault("rope 0;", 5, 5);
        fine("rope 1; rope 8; wide 1; wide 10; fast 1; fast 5;");
        fault("rope 9;", 5, 5);
        fault("rope 9; rope 8;", 5, 5);
        fault("wide 0;", 5, 5);
        fault("wide 11;", 5, 5);
        fault("fast 0;", 5, 5);
        fault("fast 6;", 5, 5);
        fine("act a 9 1; act b -9 -1;");
        fault("act a 10 0;", 5, 6);
        fault("act a -10 0;", 5, 7);
        fault("act a 0 2;", 5, 8);
        fault("act a 0 -2;", 5, 9);
        fine("gusts 0 8 -6 6; gusts 8 8 6 6; gusts 0 0 -6 -6; gusts 3 3 -0 0;");
        fault("gusts 9 9 0 0;", 5, 6);
        fault("gusts 0 9 0 0;", 5, 8);
        fault("gusts 2 1 0 0;", 5, 8);
        fault("gusts 0 0 7 7;", 5, 10);
        fault("gusts 0 0 -7 7;", 5, 11);
        fault("gusts 0 0 0 7;", 5, 12);
        fault("gusts 0 0 0 -7;", 5, 13);
        fault("gusts 0 0 0 - 1;", 5, 14);
        fault("gusts 0 0 -3 -4;", 5, 14);
        fault("rope 0; act a 10 0; act a 0 0; reflex 1<2 do x;", 5, 5);
        fault("act a 10 0; act a 0 0; rope", 1, 27);
        fault("act a 0 0; act a 10 5;", 3, 15);
    }

    private static void hugeTokensDoNotBreak() {
        fault(times("a", 2000), 1, 0);
        fault(times("1", 2000), 1, 0);
        fault(times("(", 2000), 1, 0);
        fault("swing " + times("(", 1994), 2, 12);
        fault("swing " + times("-", 1994), 2, 6 + 399);
        fault("act a 0 0 if " + times("not ", 490), 2, 13 + 4 * 395);
    }

    public static void main(String[] args) {
        newObject();
        feedAndBack();
        readChanges();
        tokens();
        syntax();
        room();
        meaning();
        hugeTokensDoNotBreak();
        DUE.end();
    }
}
