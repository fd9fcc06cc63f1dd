/** Compares answers with what is due, and tells at the end whether all were so. */
final class Due {
    private int wrong;
    private int asked;

    void is(String call, long got, long want) {
        asked++;
        if (got != want) {
            wrong++;
            if (wrong <= 40) {
                System.out.println(call + " answered " + got + ", due is " + want);
            }
        }
    }

    void is(String call, boolean got, boolean want) {
        is(call, got ? 1 : 0, want ? 1 : 0);
    }

    boolean allWell() {
        return wrong == 0;
    }

    void end() {
        System.out.println(asked + " answers, " + wrong + " of them not as due");
        if (wrong != 0) {
            System.exit(1);
        }
    }

    /** What beat answers; -1000: IllegalStateException, -2000: IllegalArgumentException. */
    static int beat(RopeSchool x, int act, int gust) {
        try {
            return x.beat(act, gust);
        } catch (IllegalStateException e) {
            return -1000;
        } catch (IllegalArgumentException e) {
            return -2000;
        }
    }

    /** Puts a text on the tape, by feed and back as a user of the class has to. */
    static int put(RopeSchool x, String text) {
        int size = x.count(10);
        for (int i = 0; i < text.length(); i += 20) {
            int[] words = new int[5];
            for (int j = 0; j < 20; j++) {
                int c = i + j < text.length() ? text.charAt(i + j) : ' ';
                words[j / 4] = words[j / 4] << 8 | c & 255;
            }
            size = x.feed(words[0], words[1], words[2], words[3], words[4]);
        }
        return text.length() % 20 == 0 ? size : x.back(20 - text.length() % 20);
    }

    static int read(RopeSchool x, String text) {
        put(x, text);
        return x.read();
    }
}
