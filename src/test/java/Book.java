import java.io.IOException;
import java.nio.file.Files;
import java.nio.file.Path;
import java.util.ArrayList;
import java.util.LinkedHashMap;
import java.util.List;
import java.util.Map;

/**
 * The document, sentence by sentence: a sentence is quoted, then asked for. At the end every word of the Terms and of
 * the promises must have been quoted, every quote must stand there, and every quote must have been asked for.
 */
final class Book {
    /** One question about a number, mostly a STATE's. */
    interface Ask {
        long of(RopeSchool x, int n);
    }

    private static final class Part {
        final String text;
        final boolean[] quoted;

        Part(String text) {
            this.text = text;
            this.quoted = new boolean[text.length()];
        }
    }

    private static final int MOST_SHOWN = 60;

    private final Map<String, Part> parts = new LinkedHashMap<>();
    private final List<String> unasked = new ArrayList<>();
    private String quote = "";
    private int askedHere;
    private int quotes;
    private int asked;
    private int wrong;

    /** Where the document does not lie at hand all is asked for, but no quote is looked up. */
    Book(Path document) throws IOException {
        if (!Files.exists(document)) {
            System.out.println("there is no " + document + ": quotes are not looked up");
            return;
        }
        String name = "";
        StringBuilder text = new StringBuilder();
        for (String line : Files.readAllLines(document)) {
            if (line.startsWith("## ")) {
                parts.put(name, new Part(plain(text.toString())));
                name = line.substring(3).replaceAll("^(Promise [0-9]+):.*", "$1");
                text.setLength(0);
            } else {
                text.append(line).append(' ');
            }
        }
        parts.put(name, new Part(plain(text.toString())));
    }

    /** Without what is there for the eye alone: fences, the heads of parts,
        the line of the face that a promise is of. */
    private static String plain(String text) {
        return text.replaceAll("```[a-z]*", " ").replaceAll("==== [IV]+\\.", " ").replaceAll("^ *`[^`]*`:", " ")
            .replaceAll("\\s+", " ");
    }

    void says(int promise, String sentence) {
        says("Promise " + promise, sentence);
    }

    /** What is asked from here on would be answered otherwise if this sentence were broken. */
    void says(String part, String sentence) {
        leaveQuote();
        quote = part + ": " + sentence;
        askedHere = 0;
        quotes++;
        if (parts.isEmpty()) {
            return;
        }
        Part of = parts.get(part);
        int first = of == null ? -1 : of.text.indexOf(sentence);
        if (first < 0) {
            complain("the document does not say: " + quote);
            return;
        }
        int at = first;
        while (of.quoted[at] && of.text.indexOf(sentence, at + 1) >= 0) {
            at = of.text.indexOf(sentence, at + 1);
        }
        for (int i = at; i < at + sentence.length(); i++) {
            of.quoted[i] = true;
        }
    }

    private void leaveQuote() {
        if (!quote.isEmpty() && askedHere == 0) {
            unasked.add(quote);
        }
    }

    private void complain(String what) {
        wrong++;
        if (wrong <= MOST_SHOWN) {
            System.out.println(what);
        }
    }

    void is(String call, long got, long want) {
        asked++;
        askedHere++;
        if (got != want) {
            complain(call + " answered " + got + ", due is " + want + " (" + quote + ")");
        }
    }

    void is(String call, boolean got, boolean want) {
        is(call, got ? 1 : 0, want ? 1 : 0);
    }

    void end() {
        leaveQuote();
        for (String none : unasked) {
            complain("nothing was asked about: " + none);
        }
        for (Map.Entry<String, Part> part : parts.entrySet()) {
            if (part.getKey().equals("Terms") || part.getKey().startsWith("Promise")) {
                unquoted(part.getKey(), part.getValue());
            }
        }
        System.out.println(quotes + " quotes, " + asked + " answers, " + wrong + " of them not as due");
        if (wrong != 0) {
            System.exit(1);
        }
    }

    private void unquoted(String name, Part part) {
        StringBuilder left = new StringBuilder();
        for (int i = 0; i < part.text.length(); i++) {
            left.append(part.quoted[i] ? ' ' : part.text.charAt(i));
        }
        if (left.toString().matches(".*[A-Za-z0-9].*")) {
            complain("no test quotes of " + name + ": " + left.toString().replaceAll("\\s+", " "));
        }
    }

    // ---- what many tests need ----

    RopeSchool told(String text) {
        RopeSchool x = new RopeSchool();
        if (Due.read(x, text) != 0) {
            complain("FAULT at " + x.place() + " of " + text);
        }
        return x;
    }

    /** A new object reads a text: its FAULT, and the place of that. */
    void fault(String text, int number, int place) {
        RopeSchool x = new RopeSchool();
        String shown = text.length() > 90 ? text.substring(0, 90) + ".." : text;
        is("read of " + shown, Due.read(x, text), number);
        is("place of " + shown, x.place(), place);
    }

    void fine(String text) {
        fault(text, 0, -1);
    }

    /** The number of a STATE, whether there is such a one or not. */
    static int number(int at, int lean, int swing) {
        return (at * 21 + lean + 10) * 11 + swing + 5;
    }

    /** Asks about all numbers, and some beyond: just those that are no STATES have this answer. */
    void justStates(String call, int length, int wide, int fast, String rest, long none, Ask ask) {
        String text = "rope " + length + "; wide " + wide + "; fast " + fast + "; " + rest;
        boolean[] states = new boolean[2079];
        for (int at = 0; at <= length; at++) {
            for (int lean = -wide; lean <= wide; lean++) {
                for (int swing = -fast; swing <= fast; swing++) {
                    states[number(at, lean, swing)] = true;
                }
            }
        }
        RopeSchool x = told(text);
        for (int n = -12; n <= 2079 + 231; n++) {
            // an object is used for at most 512 calls
            x = n % 128 == 0 ? told(text) : x;
            boolean is = n >= 0 && n < 2079 && states[n];
            if ((ask.of(x, n) == none) == is) {
                is(call + " of " + n + " with " + text, is ? none : ask.of(x, n), is ? 0 : none);
            }
        }
        for (int n : new int[] {Integer.MIN_VALUE, Integer.MAX_VALUE, 1 << 16, -2079}) {
            is(call + " of " + n, ask.of(x, n), none);
        }
    }

    /** The same with a small ROPE and the greatest one. */
    void justStates(String call, String rest, long none, Ask ask) {
        justStates(call, 2, 3, 2, rest, none, ask);
        justStates(call, 8, 10, 5, rest, none, ask);
    }

    /** Numbers that are far from everything, or one beyond low .. high. */
    static int[] beyond(int low, int high) {
        return new int[] {low - 1, high + 1, Integer.MIN_VALUE, Integer.MAX_VALUE, low - 100, high + 100};
    }
}
