/** The edges of the tape, of TOKENS, of the form of a text and of its FAULTS: promises 1 to 5. */
final class TextEdges {
    private static final String[] WORDS = {"rope", "wide", "fast", "swing", "lean", "act", "if", "gusts", "reflex",
        "do", "or", "and", "not", "at", "push", "gust", "pole"};
    private static final int BLANKS = 0x20202020;
    private final Book b;

    TextEdges(Book book) {
        b = book;
    }

    void all() {
        calls();
        newObject();
        feed();
        back();
        read();
        place();
        bytes();
        names();
        ints();
        signs();
        longer();
        tells();
        conds();
        sums();
        firstFault();
        syntax();
        room();
        roomOfTells();
        twice();
        unknown();
        wrong();
        faultChangesNothing();
        newText();
    }

    private static boolean isBlank(int c) {
        return c == 9 || c == 10 || c == 13 || c == 32;
    }

    // ---- objects and the tape ----

    private void calls() {
        b.says("What it is", "An object is used for at most 512 calls after it has been made");
        RopeSchool x = new RopeSchool();
        for (int call = 1; call <= 512; call += 2) {
            b.is("read, call " + call, x.read(), 0);
            b.is("poles, call " + (call + 1), x.poles(Book.number(0, 6, 3)), -2);
        }
        x = b.told("act a 1 0;");
        for (int call = 5; call <= 512; call += 2) {
            int p = 1 + call / 2 % 4;
            b.is("pole, call " + call, x.pole(p), true);
            b.is("next, call " + (call + 1), x.next(115, 0, 0), p == 4 ? -2 : Book.number(0, -p, -p));
        }
        x = b.told("act a 0 0;");
        x.stand(115);
        for (int call = 6; call <= 512; call++) {
            if (call <= 205 || call > 405) {
                b.is("beat, call " + call, Due.beat(x, 0, 0), 115);
            } else {
                b.is("undo, call " + call, x.undo(), true);
            }
        }
        b.says("The public face", "public static final int NONE = -1;");
        b.is("NONE", RopeSchool.NONE, -1);
    }

    private void newObject() {
        b.says(1, "A ROPE of which nothing is told; SLOTS are empty.");
        RopeSchool other = b.told("rope 2; wide 2; fast 2; act a 1 0; act b -1 0; act c 0 1; gusts 0 1 0 1; "
            + "reflex 1<2 do b;");
        other.pole(3);
        other.forecast(1);
        other.hold(0);
        other.hold(1);
        other.hold(2);
        other.stand(115);
        other.feed(0, 0, 0, 0, 0);
        RopeSchool x = new RopeSchool();
        int[] counts = {4, 6, 3, 1, 0, 0, 1, 0, 0, -1, 0, 5 * 13 * 7};
        for (int i = 0; i < counts.length; i++) {
            b.is("new count(" + i + ")", x.count(i), counts[i]);
        }
        b.is("new count(13)", x.count(13), -1);
        for (int slot = 0; slot < 3; slot++) {
            b.is("new compare(" + slot + ", 0)", x.compare(slot, 0), 0);
            b.is("new compare(" + slot + ", 1)", x.compare(slot, 1), x.count(12));
            b.is("new compare(" + slot + ", 2)", x.compare(slot, 2), 0);
        }
        b.is("new learned(0)", x.learned(0), -1);
        b.is("new place", x.place(), -1);
        b.is("new undo", x.undo(), false);
        b.is("new gust", x.gust(115, true) + x.gust(115, false), 0);
        b.is("new next", x.next(115, 0, 2), Book.number(1, 2, 2));
        b.is("new read of nothing", x.read(), 0);
        b.is("the other one has its own", other.count(0), 2);
    }

    /** Twenty bytes, blanks but for one. */
    private static int feedOne(RopeSchool x, int place, int value) {
        int[] words = {BLANKS, BLANKS, BLANKS, BLANKS, BLANKS};
        int shift = 24 - 8 * (place % 4);
        words[place / 4] = words[place / 4] & ~(255 << shift) | value << shift;
        return x.feed(words[0], words[1], words[2], words[3], words[4]);
    }

    private void feed() {
        b.says(2, "Twenty bytes, the highest of a first, come behind the tape: how many it has.");
        for (int place = 0; place < 20; place++) {
            RopeSchool x = new RopeSchool();
            b.is("feed", feedOne(x, place, 255), 20);
            b.is("read of byte 255", x.read(), 1);
            b.is("place of byte 255", x.place(), place);
            feedOne(x, place, ' ');
            b.is("feed behind", feedOne(x, place, 128), 40);
            b.is("read of byte 128", x.read(), 1);
            b.is("place of byte 128", x.place(), 20 + place);
        }
        RopeSchool x = new RopeSchool();
        x.feed(0x726f7065, 0x20373b77, 0x69646520, 0x353b6661, 0x73742032);
        x.feed(0x3b202020, BLANKS, BLANKS, BLANKS, BLANKS);
        b.is("rope 7;wide 5;fast 2;", x.read(), 0);
        b.is("LENGTH", x.count(0), 7);
        b.is("WIDE", x.count(1), 5);
        b.is("FAST", x.count(2), 2);
        b.says(2, "NONE, and nothing comes, if it would have more than 2,000.");
        for (int short1 = 0; short1 <= 20; short1++) {
            x = new RopeSchool();
            for (int i = 1; i <= 100; i++) {
                b.is("feed " + i, x.feed(BLANKS, BLANKS, BLANKS, BLANKS, BLANKS), 20 * i);
            }
            x.back(short1);
            b.is("feed on " + (2000 - short1), feedOne(x, 0, '?'), short1 == 20 ? 2000 : -1);
            b.is("bytes then", x.count(10), short1 == 20 ? 2000 : 2000 - short1);
            b.is("read", x.read(), short1 == 20 ? 1 : 0);
            b.is("place", x.place(), short1 == 20 ? 1980 : -1);
        }
    }

    private void back() {
        b.says(3, "The last n bytes of the tape go: how many it has.");
        RopeSchool x = new RopeSchool();
        x.feed(0x726f7065, 0x20373b3f, BLANKS, BLANKS, BLANKS);
        b.is("back(0)", x.back(0), 20);
        b.is("back(12)", x.back(12), 8);
        b.is("back(1)", x.back(1), 7);
        b.is("rope 7;", x.read(), 0);
        b.is("LENGTH", x.count(0), 7);
        x.feed(-1, -1, -1, -1, -1);
        b.is("back of all", x.back(20), 0);
        b.is("back(0) of none", x.back(0), 0);
        b.is("read of none", x.read(), 0);
        for (int i = 0; i < 100; i++) {
            x.feed(BLANKS, BLANKS, BLANKS, BLANKS, BLANKS);
        }
        b.is("back of 2,000", x.back(2000), 0);
        b.is("feed behind that", x.feed(0, 0, 0, 0, 0), 20);
        b.says(3, "NONE, and nothing goes, if it has not so many, or n is below 0.");
        for (int n : new int[] {21, 22, 2000, Integer.MAX_VALUE, -1, -20, -2000, Integer.MIN_VALUE}) {
            b.is("back(" + n + ")", x.back(n), -1);
            b.is("bytes then", x.count(10), 20);
        }
        x.back(20);
        b.is("back(1) of none", x.back(1), -1);
        b.is("back(-1) of none", x.back(-1), -1);
        b.is("bytes of none", x.count(10), 0);
        b.is("feed", x.feed(0x726f7065, 0x20353b20, BLANKS, BLANKS, BLANKS), 20);
        b.is("back(-5)", x.back(-5), -1);
        b.is("back(21)", x.back(21), -1);
        b.is("nothing went", x.read() + 10 * x.count(0), 50);
    }

    private void read() {
        b.says(4, "The tape, which is empty then, is read: 0, or the number of its FAULT.");
        RopeSchool x = new RopeSchool();
        String[] texts = {"rope 5;", "rope 5; rope", "swing (((((((1", "act a 0 0; act a 0 0;", "reflex 1<2 do a;",
            "rope 9;"};
        for (int i = 0; i < texts.length; i++) {
            b.is("read of " + texts[i], Due.read(x, texts[i]), i);
            b.is("bytes then", x.count(10), 0);
            b.is("back then", x.back(1), -1);
            b.is("LENGTH then", x.count(0), 5);
        }
        b.is("read of nothing more", x.read(), 0);
        b.is("LENGTH then", x.count(0), 4);
        Due.read(x, "rope 6; wide 5; fast 2; ".repeat(10));
        b.is("a shorter one: the bytes of the longer one are gone", Due.read(x, "rope 2;"), 0);
        b.is("LENGTH", x.count(0), 2);
        b.is("WIDE", x.count(1), 6);
        for (String broken : new String[] {"swing -(1+(2*", "swing 5-2*;", "lean -", "act a 0 0 if not 1<-;"}) {
            b.is("read of " + broken, Due.read(x, broken), 1);
            b.is("a good one behind it", Due.read(x, "swing 2; lean swing+1; act a 0 0 if 1 < 2;"), 0);
            b.is("what it tells", x.next(115, 0, 0), Book.number(0, 3, 2));
        }
    }

    private void place() {
        b.says(5, "The byte of the latest read()'s FAULT;");
        RopeSchool x = new RopeSchool();
        Due.read(x, "?");
        b.is("the first byte", x.place(), 0);
        Due.put(x, "rope 3; ");
        b.is("a feed changes nothing", x.place(), 0);
        x.back(1);
        b.is("nor does a back", x.place(), 0);
        x.pole(2);
        x.back(2000);
        b.is("nor a back that is refused", x.place(), 0);
        x.back(7);
        Due.read(x, "rope 0;");
        b.is("the latest one's", x.place(), 5);
        Due.read(x, " ".repeat(1999) + "?");
        b.is("the last byte", x.place(), 1999);
        Due.read(x, " ".repeat(1996) + "rope");
        b.is("the end of 2,000", x.place(), 2000);
        b.says(5, "NONE without.");
        b.is("ahead of any read", new RopeSchool().place(), -1);
        x.read();
        b.is("behind a good one", x.place(), -1);
    }

    // ---- TOKENS ----

    private void bytes() {
        b.says("Terms", "A TEXT has 2,000 bytes at most.");
        RopeSchool x = b.told(" ".repeat(1993) + "rope 7;");
        b.is("a TELL at the very end", x.count(0), 7);
        b.fault(" ".repeat(1994) + "rope 7", 1, 2000);
        b.fault(" ".repeat(1999) + ";", 1, 1999);
        b.fault("rope 7;" + "\n".repeat(1992) + "x", 1, 1999);
        b.says("Terms", "TOKENS, the longest that can be, with blanks (9, 10, 13, 32) between or not:");
        for (int c = 0; c < 256; c++) {
            String text = "rope" + (char) c + "7;";
            if (isBlank(c) || c == '0') {
                b.fine(text);
            } else if (c >= '1' && c <= '9') {
                b.fault(text, 5, 4);
            } else {
                b.fault(text, 1, c >= 'a' && c <= 'z' ? 0 : 4);
            }
            b.fault((char) c + "\t;", 1, isBlank(c) ? 2 : 0);
        }
        b.fine("\r\n\t rope \t\r\n 4 \n;\t");
        b.fine("rope7;wide3;act a-1-1if not 1<2and-1<=1;gusts 1 2-3-2if(1)==1or 1!=1;reflex 1<2do "
            + "a;swing-1;lean(1)--2;");
        b.fault("act a 0 0 ifnot 1<2;", 1, 10);
        b.fault("gust s 0 0 0 0;", 1, 0);
        b.fault("act a 0 0 if 1< =2;", 1, 16);
        b.fault("act a 0 0 if 1= =2;", 1, 14);
        b.fault("rope 1 2;", 1, 7);
        b.fault("ro pe 2;", 1, 0);
    }

    private void names() {
        b.says("Terms", "NAMES (letters a .. z, 8 at most, none of the words in quotes),");
        for (int c = 0; c < 256; c++) {
            String text = "act " + (char) c + " 0 0;";
            if (c >= 'a' && c <= 'z') {
                b.fine(text);
            } else {
                b.fault(text, 1, isBlank(c) ? 6 : 4);
            }
        }
        for (int n = 1; n <= 20; n++) {
            String text = "act " + "z".repeat(n) + " 0 0;";
            b.fault(text, n <= 8 ? 0 : 1, n <= 8 ? -1 : 4);
        }
        for (String word : WORDS) {
            b.fault("act " + word + " 0 0;", 1, 4);
            b.fault("act a 0 0; reflex 1<2 do " + word + ";", 1, 25);
            b.fine("act " + word + "x 0 0; act x" + word + " 0 0;");
            String less = word.substring(1);
            b.fine("act " + less + " 0 0;");
        }
    }

    private void ints() {
        b.says("Terms", "INTS (1 to 4 digits),");
        b.fine("swing 0; swing 9; swing 00; swing 99; swing 000; swing 999; swing 0000; swing 9999;");
        b.fault("swing 00000;", 1, 6);
        b.fault("swing 10000;", 1, 6);
        b.fault("swing 999999999999999;", 1, 6);
        b.fault("rope :;", 1, 5);
        b.fault("rope /;", 1, 5);
        RopeSchool x = b.told("rope 0008; wide 010; act a 0009 0001 if 9999 == 9998+1 and 1234 == 1000+200+30+4 and "
            + "0010 == 10;");
        b.is("rope 0008", x.count(0), 8);
        b.is("wide 010", x.count(1), 10);
        b.is("four digits are their number", x.can(115, 0), 1);
    }

    private void signs() {
        b.says("Terms", "SIGNS ; + - * / == != < <= ( ) .");
        for (int c = 0; c < 256; c++) {
            boolean calculates = "+-*/".indexOf(c) >= 0;
            String one = "act a 0 0 if 1 " + (char) c + " 2;";
            b.fault(one, c == '<' ? 0 : 1, c == '<' ? -1 : calculates ? 18 : isBlank(c) ? 17 : 15);
            String two = "act a 0 0 if 1 " + (char) c + "= 2;";
            boolean compares = "=!<".indexOf(c) >= 0;
            b.fault(two, compares ? 0 : 1, compares ? -1 : calculates || isBlank(c) ? 16 : 15);
        }
        b.fine("swing ((1)+2-3*4/(5));");
    }

    private void longer() {
        b.says("Terms", "A longer one, all else, is no TOKEN.");
        b.fault("rope 12345;", 1, 5);
        b.fault("rope 00001;", 1, 5);
        b.fault("act abcdefghi 0 0;", 1, 4);
        b.fault("reflexes 1<2 do a;", 1, 0);
        b.fault("rope" + "s".repeat(5), 1, 0);
        b.fault("a".repeat(2000), 1, 0);
        b.fault("1".repeat(2000), 1, 0);
        b.fault("swing " + "1".repeat(1994), 1, 6);
        b.fault("act a 0 0 if 1 === 2;", 1, 17);
        b.fault("act a 0 0 if 1 !== 2;", 1, 17);
        b.fault("act a 0 0 if 1 <== 2;", 1, 17);
        b.fault("act a 0 0 if 1 <> 2;", 1, 16);
        b.fault("act a 0 0 if 1 !", 1, 15);
        b.fault("act a 0 0 if 1 =", 1, 15);
        b.fault("rope 9; rope 0; act a 0 0; act a 0 0; .", 1, 38);
    }

    // ---- the form of a text ----

    private void tells() {
        b.says("Terms", "text: {TELL}.");
        b.fine("");
        b.fine(" \t\r\n");
        b.fault(";", 1, 0);
        b.fault("rope 4;;", 1, 7);
        b.fault("rope 4; 4", 1, 8);
        for (String var : new String[] {"at", "push", "gust", "pole", "if", "do", "or", "and", "not", "x", "1", "("}) {
            b.fault(var + " 1;", 1, 0);
        }
        b.says("Terms", "TELL: ('rope' | 'wide' | 'fast') INT ';'");
        for (String word : new String[] {"rope", "wide", "fast"}) {
            b.fine(word + " 3;");
            b.fault(word, 1, 4);
            b.fault(word + " ;", 1, 5);
            b.fault(word + " -3;", 1, 5);
            b.fault(word + " (3);", 1, 5);
            b.fault(word + " at;", 1, 5);
            b.fault(word + " 3", 1, 6);
            b.fault(word + " 3+1;", 1, 6);
            b.fault(word + " 3 3;", 1, 7);
        }
        b.says("Terms", "| ('swing' | 'lean') E ';'");
        b.fine("swing 1; lean 1;");
        b.fault("swing ;", 1, 6);
        b.fault("lean ;", 1, 5);
        b.fault("swing", 1, 5);
        b.fault("lean lean", 1, 9);
        b.fault("swing 1 2;", 1, 8);
        b.fault("lean 1<2;", 1, 6);
        b.fault("swing 1 if 1<2;", 1, 8);
        b.says("Terms", "| 'act' NAME SINT SINT ['if' COND] ';'");
        b.fine("act a 1 0; act b 1 0 if 1<2;");
        b.fault("act 1 0 0;", 1, 4);
        b.fault("act a;", 1, 5);
        b.fault("act a 0;", 1, 7);
        b.fault("act a 0 0", 1, 9);
        b.fault("act a 0 0 0;", 1, 10);
        b.fault("act a 0 0 if;", 1, 12);
        b.fault("act a 0 0 1<2;", 1, 10);
        b.fault("act a 0 0 if 1<2 if 1<2;", 1, 17);
        b.fault("act a 0 0 if 1<2 do a;", 1, 17);
        b.says("Terms", "| 'gusts' INT INT SINT SINT ['if' COND] ';'");
        b.fine("gusts 1 2 3 4; gusts 1 2 -4 -3 if 1<2;");
        b.fault("gusts;", 1, 5);
        b.fault("gusts 1 2 3;", 1, 11);
        b.fault("gusts 1 2 3 4 5;", 1, 14);
        b.fault("gusts -1 2 3 4;", 1, 6);
        b.fault("gusts 1 -2 3 4;", 1, 8);
        b.fault("gusts 0 1 0 1 if;", 1, 16);
        b.fault("gusts 0 1 0 1 if 1<2", 1, 20);
        b.says("Terms", "| 'reflex' COND 'do' NAME ';'.");
        String a = "act a 0 0;";
        b.fine(a + "reflex 1<2 do a;");
        b.fault(a + "reflex do a;", 1, 17);
        b.fault(a + "reflex 1<2;", 1, 20);
        b.fault(a + "reflex 1<2 do;", 1, 23);
        b.fault(a + "reflex 1<2 do 1;", 1, 24);
        b.fault(a + "reflex 1<2 do a a;", 1, 26);
        b.fault(a + "reflex 1<2 do a", 1, 25);
        b.fault(a + "reflex if 1<2 do a;", 1, 17);
        b.fault(a + "reflex 1<2 a;", 1, 21);
        b.says("Terms", "SINT: ['-'] INT.");
        b.fine("act a - 1 -\n1; gusts 0 0 -1-1;");
        b.fault("act a --1 0;", 1, 7);
        b.fault("act a +1 0;", 1, 6);
        b.fault("act a 1 +0;", 1, 8);
        b.fault("act a -;", 1, 7);
        b.fault("act a -a 0;", 1, 7);
        b.fault("act a -(1) 0;", 1, 7);
        b.fault("act a -lean 0;", 1, 7);
        b.fault("gusts 0 0 - - 1 0;", 1, 12);
        b.fault("gusts 0 0 0 -", 1, 13);
    }

    private void holds(String cond, boolean want) {
        RopeSchool x = b.told("act a 0 0 if " + cond + ";");
        b.is(cond, x.can(115, 0), want ? 1 : 0);
    }

    private void value(String sum, int want) {
        holds(sum + " == " + want, true);
        holds(sum + " != " + want, false);
    }

    private void conds() {
        b.says("Terms", "COND: ALL {'or' ALL}.");
        holds("1<1 or 1<1", false);
        holds("1<2 or 1<1", true);
        holds("1<1 or 1<2", true);
        holds("1<1 or 1<1 or 1<2", true);
        holds("1<1 or 1<2 or 1<1", true);
        holds("1<2 or 1<2 and 1<1", true);
        holds("1<1 and 1<2 or 1<2", true);
        holds("1<1 or 1<2 and 1<1", false);
        b.fault("act a 0 0 if or 1<2;", 1, 13);
        b.fault("act a 0 0 if 1<2 or;", 1, 19);
        b.fault("act a 0 0 if 1<2 or or 1<2;", 1, 20);
        b.says("Terms", "ALL: LIT {'and' LIT}.");
        holds("1<2 and 1<2", true);
        holds("1<2 and 1<1", false);
        holds("1<1 and 1<2", false);
        holds("1<2 and 1<2 and 1<1", false);
        holds("1<2 and 1<2 and 1<2", true);
        b.fault("act a 0 0 if and 1<2;", 1, 13);
        b.fault("act a 0 0 if 1<2 and;", 1, 20);
        b.fault("act a 0 0 if 1<2 1<2;", 1, 17);
        b.says("Terms", "LIT: 'not' LIT |");
        holds("not 1<1", true);
        holds("not 1<2", false);
        holds("not not 1<2", true);
        holds("not not not 1<2", false);
        holds("not 1<1 and 1<1", false);
        holds("not 1<2 or 1<2", true);
        holds("1<2 and not 1<1", true);
        b.fault("act a 0 0 if not;", 1, 16);
        b.fault("act a 0 0 if 1 not < 2;", 1, 15);
        b.fault("act a 0 0 if 1 < not 2;", 1, 17);
        b.fault("act a 0 0 if not (1<2);", 1, 19);
        b.says("Terms", "E ('==' | '!=' | '<' | '<=') E.");
        String[] comparisons = {"==", "!=", "<", "<="};
        boolean[][] want = {{false, true, false}, {true, false, true}, {true, false, false}, {true, true, false}};
        for (int c = 0; c < 4; c++) {
            String lit = "lean " + comparisons[c] + " 0";
            RopeSchool x = b.told("act a 0 0 if " + lit + "; act b 0 0 if not " + lit + ";");
            for (int lean = -1; lean <= 1; lean++) {
                int s = x.state(0, lean, 0);
                b.is(lean + comparisons[c] + 0, x.can(s, 0), want[c][lean + 1] ? 1 : 0);
                b.is("not " + lean + comparisons[c] + 0, x.can(s, 1), want[c][lean + 1] ? 0 : 1);
            }
        }
        b.fault("act a 0 0 if 1;", 1, 14);
        b.fault("act a 0 0 if < 1;", 1, 13);
        b.fault("act a 0 0 if 1 <;", 1, 16);
        b.fault("act a 0 0 if 1<2<3;", 1, 16);
        b.fault("act a 0 0 if (1<2);", 1, 15);
    }

    private void sums() {
        b.says("Terms", "E: PART {('+' | '-') PART}.");
        value("5-3-1", 1);
        value("5-3+1", 3);
        value("5+3-1+2", 9);
        value("2+3*4-1", 13);
        value("2-6/3", 0);
        b.fault("swing 1+;", 1, 8);
        b.fault("swing +1;", 1, 6);
        b.fault("swing 1++1;", 1, 8);
        b.says("Terms", "PART: UNIT {('*' | '/') UNIT}.");
        value("7/2*2", 6);
        value("2*7/2", 7);
        value("8/4/2", 1);
        value("2*3*4", 24);
        b.fault("swing *1;", 1, 6);
        b.fault("swing 1*;", 1, 8);
        b.fault("swing 1*/1;", 1, 8);
        b.says("Terms", "UNIT: INT | VAR | '(' E ')' | '-' UNIT.");
        value("(5-(3-1))", 3);
        value("(2+3)*4", 20);
        value("24/(2*3)", 4);
        value("-3+5", 2);
        value("-(3+5)", -8);
        value("--3", 3);
        value("---3", -3);
        value("2--3", 5);
        value("2*-3", -6);
        value("-2*-3", 6);
        value("-(-(-2))", -2);
        b.fault("swing ();", 1, 7);
        b.fault("swing (1;", 1, 8);
        b.fault("swing 1);", 1, 7);
        b.fault("swing (1));", 1, 9);
        b.fault("swing (1", 1, 8);
        b.fault("swing -;", 1, 7);
        b.fault("swing (1)(2);", 1, 9);
        b.fault("swing 2 at;", 1, 8);
        b.says("Terms", "VAR: 'at' | 'lean' | 'swing' | 'push' | 'gust' | 'pole'.");
        b.fine("swing at+lean+swing+push+gust+pole; lean at+lean+swing+push+gust+pole;");
        for (String word : new String[] {"rope", "wide", "fast", "act", "gusts", "reflex", "if", "do", "or", "and",
            "not", "a"}) {
            b.fault("act a 0 0; swing " + word + ";", 1, 17);
        }
    }

    // ---- FAULTS ----

    private void firstFault() {
        b.says("Terms", "FAULTS, the first by its place (a byte; the text's end: its length), of one place the least:");
        b.fault("swing (((((((1; rope", 2, 12);
        b.fault("rope; swing (((((((1;", 1, 4);
        b.fault("rope 4", 1, 6);
        b.fault("rope 4 \n", 1, 8);
        b.fault("rope", 1, 4);
        String full = "rope 4;".repeat(132) + "rope 4";
        b.fault(full + "   ", 1, full.length() + 3);
        String room = "rope 4;".repeat(132) + "lean -1;";
        b.fine(room);
        b.fault(room + "rope 4;", 2, room.length());
        b.fault(room + "at 4;", 1, room.length());
        b.fault(room + "  ?", 1, room.length() + 2);
        b.fault(room + "abcdefghi", 1, room.length());
    }

    private void syntax() {
        b.says("Terms", "1 SYNTAX: a TOKEN, or what is none, with which no text goes on.");
        b.fault("?", 1, 0);
        b.fault(";", 1, 0);
        b.fault("rope ?", 1, 5);
        b.fault("rope rope 4;", 1, 5);
        b.fault("gusts 0 1 x", 1, 10);
        b.fault("act a 0 0; reflex 1<2 and do a;", 1, 26);
        b.fault("lean (1+2;", 1, 9);
    }

    private void room() {
        b.says("Terms", "2 ROOM: a 401st TOKEN;");
        // 399 TOKENS, then one, two, three more
        String most = "rope 4;".repeat(133);
        b.fine(most);
        b.fault(most + "rope", 1, most.length() + 4);
        b.fault(most + "rope 4;", 2, most.length() + 5);
        b.fault(most + "rope\n\n4;", 2, most.length() + 6);
        b.fault(most + "rope;", 1, most.length() + 4);
        b.fine("swing " + "-".repeat(397) + "1;");
        b.fault("swing " + "-".repeat(398) + "1;", 2, 6 + 399);
        b.fault("swing " + "-".repeat(398) + "1", 1, 6 + 399);
        b.fault("swing " + "-".repeat(1994), 2, 6 + 399);
        b.fine("act a 0 0 if " + "not ".repeat(391) + "1<1;");
        b.fault("act a 0 0 if " + "not ".repeat(392) + "1<1;", 2, 13 + 4 * 392 + 3);
        b.fine("act a 0 0 if ---1<1" + " or 1<1".repeat(97) + ";");
        b.fault("act a 0 0 if 1<1" + " or 1<1".repeat(98) + ";", 2, 16 + 7 * 98);
        RopeSchool x = b.told("swing " + "-".repeat(397) + "1;");
        b.is("397 signs are counted", x.next(115, 0, 0), Book.number(1, -1, -1));
        x = b.told("act a 0 0 if " + "not ".repeat(391) + "1<1;");
        b.is("391 nots are counted", x.can(115, 0), 1);
        lastTokens();
        b.says("Terms", "a 7th ( within one another.");
        b.fine("swing " + "(".repeat(6) + "1" + ")".repeat(6) + ";");
        b.fault("swing " + "(".repeat(7) + "1" + ")".repeat(7) + ";", 2, 12);
        b.fault("swing " + "(".repeat(7), 2, 12);
        b.fault("lean 1*-((((( ((1)))))));", 2, 15);
        b.fine("swing ((((((1))))))+((((((1))))))*(1);");
        b.fine("swing (((((1)+((1)))+(((1))))+1)+1);");
        b.fine("swing -(-(-(-(-(-(1))))));");
        b.fault("swing -(-(-(-(-(-(-(1)))))));", 2, 19);
        b.fine("act a 0 0 if ((((((1))))))<((((((2))))));");
        b.fault("act a 0 0 if ((((((1))))))<(((((((2)))))));", 2, 33);
        b.fault("gusts 0 0 0 0 if (((((((2)))))))<1;", 2, 23);
        b.fault("act a 0 0; reflex 1<(((((((2))))))) do a;", 2, 26);
    }

    /** Each TOKEN of a TELL is in turn the 401st; what is none there, or no text goes on with, is SYNTAX. */
    private void lastTokens() {
        String[] tells = {"rope 4 ;", "swing - ( lean + 1 ) * 2 ;",
            "act z - 1 - 1 if not not 1 < 2 and at != 3 or ( pole ) <= 4 ;", "act z 1 1 ;",
            "gusts 0 1 - 2 - 1 if 1 == 1 ;", "gusts 0 1 0 1 ;", "act z 0 0 ; reflex not 1 < 2 do z ;"};
        for (String tell : tells) {
            String[] tokens = tell.split(" ");
            for (int j = 0; j < tokens.length; j++) {
                int ahead = 400 - j;
                int fours = ahead % 3;
                String start = "rope 4;".repeat((ahead - 4 * fours) / 3) + "lean -1;".repeat(fours);
                StringBuilder text = new StringBuilder(start);
                for (int i = 0; i < j; i++) {
                    text.append(tokens[i]).append(' ');
                }
                int place = text.length();
                b.fault(text + "?", 1, place);
                b.fault(text + "=", 1, place);
                b.fault(text + "wide9", j == 0 || tokens[j - 1].equals(";") ? 2 : 1, place);
                for (int i = j; i < tokens.length; i++) {
                    text.append(tokens[i]).append(' ');
                }
                b.fault(text.toString(), 2, place);
            }
        }
    }

    private void roomOfTells() {
        b.says("Terms", "a 7th act, a 9th gusts, a 13th reflex (at its first TOKEN);");
        StringBuilder acts = new StringBuilder();
        for (int i = 0; i < 6; i++) {
            acts.append("act ").append((char) ('a' + i)).append(" 0 0;");
        }
        RopeSchool x = b.told(acts.toString());
        b.is("six ACTS", x.count(3), 6);
        b.fault(acts + "act g 0 0;", 2, acts.length());
        b.fault(acts + "  act ?", 2, acts.length() + 2);
        b.fault(acts + "act a 0 0;", 2, acts.length());
        b.fault(acts + "act", 2, acts.length());
        b.fault(acts + "rope 9; act g 0 0;", 2, acts.length() + 8);
        x = b.told("gusts 0 1 0 0;".repeat(8));
        b.is("eight GUSTS", x.count(4), 8);
        b.fault("gusts 0 1 0 0;".repeat(8) + " gusts", 2, 8 * 14 + 1);
        b.fault("gusts 0 1 0 0;".repeat(9), 2, 8 * 14);
        x = b.told("act a 0 0;" + "reflex 1<2 do a;".repeat(12));
        b.is("twelve reflexes", x.count(5), 12);
        b.fault("act a 0 0;" + "reflex 1<2 do a;".repeat(12) + "\nreflex ;", 2, 10 + 12 * 16 + 1);
        b.fault("act a 0 0;" + "reflex 1<2 do a;".repeat(13), 2, 10 + 12 * 16);
        x = b.told(acts + "gusts 0 1 0 0;".repeat(8) + "reflex 1<2 do f;".repeat(12));
        b.is("all three full", x.count(3) * 10000 + x.count(4) * 100 + x.count(5), 60812);
    }

    private void twice() {
        b.says("Terms", "If there is none, likewise: 3 TWICE: a NAME told already.");
        b.fault("act a 0 0; act a 0 0;", 3, 15);
        b.fault("act a 0 0; act b 0 0; act c 0 0; act d 0 0; act e 0 0; act a 0 0;", 3, 59);
        b.fault("act a 0 0; act b 0 0; act c 0 0; act d 0 0; act e 0 0; act e 0 0;", 3, 59);
        b.fault("act abcdefgh 0 0; act abcdefgh 0 0;", 3, 22);
        b.fine("act a 0 0; act aa 0 0; act aaa 0 0; act b 0 0; act ba 0 0; act ab 0 0;");
        b.fine("act abcdefgh 0 0; act abcdefgi 0 0; act bbcdefgh 0 0; act abcdefg 0 0;");
        b.fault("act a 0 0; act a 99 9; rope 0;", 3, 15);
        b.fault("rope 0; act a 0 0; act a 0 0;", 5, 5);
        b.fault("reflex 1<2 do a; act a 0 0; act a 0 0;", 4, 14);
        b.fault("act a 0 0; act a 0 0; reflex 1<2 do z;", 3, 15);
        b.fault("act a 0 0; act a 0 0", 1, 20);
        b.fault("act a 0 0; act a 0 0; lean (((((((1;", 2, 33);
        RopeSchool x = b.told("act a 0 0;");
        b.is("a NAME of the text ahead is not told already", Due.read(x, "act a 0 0;"), 0);
    }

    private void unknown() {
        b.says("Terms", "4 NAME: no ACT told ahead.");
        b.fault("reflex 1<2 do a;", 4, 14);
        b.fault("reflex 1<2 do a; act a 0 0;", 4, 14);
        b.fault("act a 0 0; reflex 1<2 do b;", 4, 25);
        b.fault("act a 0 0; reflex 1<2 do aa;", 4, 25);
        b.fault("act aa 0 0; reflex 1<2 do a;", 4, 26);
        b.fine("act a 0 0; reflex 1<2 do a; act b 0 0; reflex 1<2 do b;");
        b.fault("act a 0 0; reflex 1<2 do b; act b 0 0; act a 0 0;", 4, 25);
        b.fault("reflex 1<2 do a; rope 9;", 4, 14);
        b.fault("rope 9; reflex 1<2 do a;", 5, 5);
        b.fault("reflex 1<2 do a", 1, 15);
        RopeSchool x = b.told("act a 0 0;");
        b.is("an ACT of the text ahead does not count", Due.read(x, "reflex 1<2 do a;"), 4);
        b.is("nor does the one that is there without one told", Due.read(x, ""), 0);
        b.is("read", Due.read(x, "reflex 1<2 do a;"), 4);
    }

    private void size(String word, int most) {
        for (int n : new int[] {0, 1, most, most + 1, 99, 9999}) {
            boolean good = n >= 1 && n <= most;
            b.fault(word + " " + n + ";", good ? 0 : 5, good ? -1 : 5);
            b.fault(word + " " + n + "; " + word + " 1;", good ? 0 : 5, good ? -1 : 5);
        }
    }

    private void wrong() {
        b.says("Terms", "5 WRONG (at the INT): rope 0 or above 8, wide 0 or above 10, fast 0 or above 5,");
        size("rope", 8);
        size("wide", 10);
        size("fast", 5);
        b.says("Terms", "a PUSH above 9 without its sign, a STEP above 1,");
        b.fine("act a 9 1; act b -9 -1; act c 0 0; act d -0 -0;");
        b.fault("act a 10 0;", 5, 6);
        b.fault("act a -10 0;", 5, 7);
        b.fault("act a - 10 0;", 5, 8);
        b.fault("act a 9999 0;", 5, 6);
        b.fault("act a 0 2;", 5, 8);
        b.fault("act a 0 -2;", 5, 9);
        b.fault("act a 9 9;", 5, 8);
        b.fault("act a 10 2;", 5, 6);
        b.says("Terms", "of gusts a place above 8, the second below the first, a gust above 6, the second below the "
            + "first.");
        b.fine("gusts 0 8 -6 6; gusts 0 0 -6 -6; gusts 8 8 6 6; gusts 4 4 0 -0; gusts 7 8 -1 0;");
        b.fault("gusts 9 9 0 0;", 5, 6);
        b.fault("gusts 9 8 0 0;", 5, 6);
        b.fault("gusts 0 9 0 0;", 5, 8);
        b.fault("gusts 1 0 0 0;", 5, 8);
        b.fault("gusts 8 7 0 0;", 5, 8);
        b.fault("gusts 0 0 7 7;", 5, 10);
        b.fault("gusts 0 0 -7 0;", 5, 11);
        b.fault("gusts 0 0 6 7;", 5, 12);
        b.fault("gusts 0 0 -6 -7;", 5, 14);
        b.fault("gusts 0 0 0 -1;", 5, 13);
        b.fault("gusts 0 0 1 0;", 5, 12);
        b.fault("gusts 0 0 6 5;", 5, 12);
        b.fault("gusts 0 0 -5 -6;", 5, 14);
        b.fault("gusts 1 0 7 8;", 5, 8);
        b.fault("gusts 0 0 0 - 9999;", 5, 14);
        b.fault("gusts 0 0 7 7; rope", 1, 19);
    }

    // ---- what a text changes ----

    private static final String STEER = "rope 2; wide 2; fast 2; act l 1 0; act r -1 0; act go 0 1; gusts 0 1 0 1; "
        + "reflex lean == 9 do r;";

    private static RopeSchool busy(Book book, int pole) {
        RopeSchool x = book.told("rope 3;");
        x.hold(1);
        Due.read(x, STEER);
        x.pole(pole);
        x.forecast(1);
        x.forecast(0);
        x.learn(115);
        x.hold(0);
        x.stand(115);
        Due.beat(x, 0, 1);
        shown(x);
        return x;
    }

    private static String shown(RopeSchool x) {
        StringBuilder all = new StringBuilder();
        for (int what = 0; what <= 13; what++) {
            all.append(x.count(what)).append(' ');
        }
        for (int i = 0; i < 6; i++) {
            all.append(x.learned(i)).append(' ').append(x.compare(i / 2, 1 + i % 2)).append(' ');
        }
        for (int s : new int[] {115, Book.number(0, 1, 1), Book.number(1, -1, 0)}) {
            all.append(x.gust(s, false)).append(' ').append(x.gust(s, true)).append(' ').append(x.can(s, 0)).append(' ')
                .append(x.next(s, 0, 0)).append(' ').append(x.next(s, 2, 1)).append(' ').append(x.fate(s)).append(' ')
                .append(x.keep(s)).append(' ').append(x.reach(s)).append(' ').append(x.lead(s)).append(' ')
                .append(x.borne(s)).append(' ').append(x.poles(s)).append(' ').append(x.known(s)).append(' ')
                .append(x.knownAct(s, 0)).append(' ').append(x.blind(s, 2)).append(' ').append(x.reflex(s)).append(' ')
                .append(x.proof(s)).append(' ').append(x.witness(s, 0)).append(' ').append(x.arrives(s)).append(' ')
                .append(x.odds(s, 5, 0)).append(' ').append(x.drill(s, 1, 9, 9, 0)).append(' ');
        }
        for (int what = 0; what < 4; what++) {
            all.append(x.walked(0, what)).append(' ');
        }
        return all.append(x.blame()).append(' ').append(x.doom()).toString();
    }

    private void faultChangesNothing() {
        b.says("Terms", "A text with a FAULT changes nothing;");
        String good = "rope 3; wide 3; fast 3; act z 1 1; act y 0 0 if lean<1; gusts 0 2 -1 1; reflex 1<2 do z; "
            + "swing 1; lean 1; ";
        String[] faults = {"x", "swing (((((((1;", "act z 0 0;", "reflex 1<2 do q;", "rope 9;"};
        for (int pole = 1; pole <= 2; pole++) {
            for (int i = 0; i < faults.length; i++) {
                RopeSchool x = busy(b, pole);
                String before = shown(x);
                b.is("read", Due.read(x, good + faults[i]), i + 1);
                String after = shown(x);
                b.is("FAULT " + (i + 1) + " made " + after + " of " + before, after.equals(before), true);
                b.is("the ROPE has not its own WALK then", Due.beat(x, 1, 0), busyBeat(pole));
            }
        }
    }

    private int busyBeat(int pole) {
        RopeSchool x = busy(b, pole);
        return Due.beat(x, 1, 0);
    }

    private void newText() {
        b.says("Terms", "else it is in place of the one ahead: the POLE is 1, nothing is LEARNED, nobody stands on "
            + "the ROPE, there are no FORECASTS.");
        for (String text : new String[] {"", STEER, "rope 3;"}) {
            RopeSchool x = busy(b, 2);
            b.is("read", Due.read(x, text), 0);
            b.is("the POLE", x.count(6), 1);
            b.is("LEARNED", x.count(8), 0);
            b.is("learned(0)", x.learned(0), -1);
            b.is("forget", x.forget(), 0);
            b.is("FORECASTS", x.count(7), 0);
            b.is("KNOWN", x.known(115), -2);
            b.is("BEATS", x.count(9), -1);
            b.is("stands", x.count(13), -1);
            b.is("undo", x.undo(), false);
            b.is("walked", x.walked(0, 0), -100);
            b.is("blame", x.blame(), -1);
            b.is("beat", Due.beat(x, 0, 0), -1000);
            RopeSchool fresh = b.told(text);
            fresh.forecast(0);
            x.forecast(0);
            b.is("ACTS", x.count(3), fresh.count(3));
            b.is("GUSTS", x.count(4), fresh.count(4));
            b.is("reflexes", x.count(5), fresh.count(5));
            b.is("STATES", x.count(11), fresh.count(11));
            b.is("SAFE ones", x.count(12), fresh.count(12));
            b.is("poles", x.poles(127), fresh.poles(127));
            b.is("borne", x.borne(115), fresh.borne(115));
            b.is("reach", x.reach(103), fresh.reach(103));
            b.is("proof", x.proof(115), fresh.proof(115));
            b.is("reflex", x.reflex(103), fresh.reflex(103));
            b.is("known", x.known(115), fresh.known(115));
            b.is("lead", x.lead(115), fresh.lead(115));
            b.is("doom", x.doom(), fresh.doom());
            b.is("arrives", x.arrives(115), fresh.arrives(115));
            b.is("poles of one that was SAFE", x.poles(115), fresh.poles(115));
            b.is("next", x.next(115, 0, 1), fresh.next(115, 0, 1));
            b.is("the law of lean", x.next(127, 0, 0), fresh.next(127, 0, 0));
        }
        RopeSchool x = b.told("swing 3; lean 2; act a 9 -1 if 1<1; gusts 0 8 5 6;");
        x.read();
        b.is("untold, the laws are not those of the text ahead, nor the ACT", x.next(115, 0, 1), Book.number(1, 1, 1));
        b.is("nor the gusts", x.gust(115, true), 0);
        String all = "rope 7; wide 9; fast 2; swing 2; lean 3; act a 9 -1 if lean == 1; gusts 0 8 -5 6; "
            + "reflex lean == 1 do a;";
        for (int reads = 1; reads <= 3; reads++) {
            x = new RopeSchool();
            for (int i = 0; i < reads; i++) {
                b.is("read", Due.read(x, all), 0);
                b.is("gusts", x.gust(115, true) * 10 + x.gust(115, false), 55);
            }
            for (int i = 0; i < 3; i++) {
                b.is("read of nothing", x.read(), 0);
                int[] counts = {4, 6, 3, 1, 0, 0, 1, 0, 0, -1, 0, 5 * 13 * 7};
                for (int what = 0; what < counts.length; what++) {
                    b.is("count(" + what + ")", x.count(what), counts[what]);
                }
                b.is("the untold ACT and laws", x.next(115, 0, 1), Book.number(1, 1, 1));
                b.is("no gusts", x.gust(115, true), 0);
                b.is("no gusts", x.gust(115, false), 0);
                b.is("no reflex", x.reflex(126), 0);
            }
        }
        x = b.told("act a 0 0;");
        b.is("poles", x.poles(115), 1);
        Due.read(x, "act a 0 0 if pole == 3;");
        b.is("poles of the new text", x.poles(115), 3);
        Due.read(x, "act a 0 0 if 1<1;");
        b.is("poles of the new text", x.poles(115), -2);
        Due.read(x, "act a 0 0;");
        b.is("poles of the new text", x.poles(115), 1);
        for (int i = 0; i < 12; i++) {
            // long texts, again and again: none takes the room of the next
            b.is("read", Due.read(x, "swing " + "1-".repeat(80) + "-80; lean " + "(1)+".repeat(40) + "0-40;"), 0);
            b.is("next", x.next(115, 0, 0), Book.number(1, 0, 1 - 79 + 80));
        }
    }
}
