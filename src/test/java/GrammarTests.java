import java.io.IOException;
import java.nio.file.Files;
import java.nio.file.Path;
import java.util.ArrayList;
import java.util.List;
import java.util.Random;
import java.util.Set;

/**
 * FAULTS 1 and 2, by the grammar that is read from the document: behind the beginnings of texts by lots every TOKEN,
 * something that is none, and the end; SYNTAX is due just where no text goes on.
 */
public final class GrammarTests {
    private static final Due DUE = new Due();
    private static final String[] NO_TOKENS = {"=", "!", "$", "A", "abcdefghi", "12345", "\u0000", "\u00ff", ">", "_", "."};
    private static final int MOST_CALLS = 512;

    private final Random lots;
    private final Grammar grammar;
    private final List<String> all;
    private RopeSchool school = new RopeSchool();
    private int calls;

    private StringBuilder text;
    private Grammar.Telling telling;
    private int tokens;
    private int acts;
    private int gusts;
    private int reflexes;
    private int brackets;

    private GrammarTests(Grammar grammar, int seed) {
        this.grammar = grammar;
        this.all = new ArrayList<>(grammar.tokens());
        this.lots = new Random(seed);
    }

    private String pick(List<String> of) {
        return of.get(lots.nextInt(of.size()));
    }

    /** The signs of a TOKEN; blanks ahead of it, where it would run into the one ahead always. */
    private String written(String token) {
        String signs = token;
        if (token.equals("INT")) {
            signs = String.valueOf(lots.nextInt(2) + 1);
        } else if (token.equals("NAME")) {
            signs = pick(List.of("a", "b", "zz", "ropes", "gusty", "abcdefgh"));
        }
        String pair = text.length() == 0 ? "" : "" + text.charAt(text.length() - 1) + signs.charAt(0);
        boolean runs = pair.matches("[a-z][a-z]|[0-9][0-9]|[<=!]=");
        return (runs || lots.nextInt(3) == 0 ? pick(List.of(" ", "\n", "\t", "\r", "  ")) : "") + signs;
    }

    private void begin() {
        text = new StringBuilder();
        telling = grammar.new Telling();
        tokens = 0;
        acts = 0;
        gusts = 0;
        reflexes = 0;
        brackets = 0;
    }

    private void tell(String token) {
        text.append(written(token));
        telling.tell(token);
        tokens++;
        acts += token.equals("act") ? 1 : 0;
        gusts += token.equals("gusts") ? 1 : 0;
        reflexes += token.equals("reflex") ? 1 : 0;
        brackets += token.equals("(") ? 1 : token.equals(")") ? -1 : 0;
    }

    private boolean isTooMany(String token) {
        return tokens == 400 || token.equals("act") && acts == 6 || token.equals("gusts") && gusts == 8
            || token.equals("reflex") && reflexes == 12 || token.equals("(") && brackets == 6;
    }

    /** The FAULT at this place, if it is one of the first two; else 0. */
    private int due(String token) {
        if (!telling.open().contains(token)) {
            return 1;
        }
        return isTooMany(token) ? 2 : 0;
    }

    private void ask(String whole, int due, int place) {
        int needed = whole.length() / 20 + 5;
        if (calls + needed > MOST_CALLS) {
            school = new RopeSchool();
            calls = 0;
        }
        calls += needed;
        if (whole.length() > 2000) {
            return;
        }
        int fault = Due.read(school, whole);
        DUE.is("read (0: no FAULT 1 or 2) of " + whole, fault == 1 || fault == 2 ? fault : 0, due);
        if (due != 0) {
            DUE.is("place in " + whole, school.place(), place);
        }
    }

    /** Every TOKEN behind what is told, and what comes behind it must not matter if it is a FAULT. */
    private void askAll() {
        for (String token : all) {
            String more = written(token);
            int due = due(token);
            if (due != 0) {
                ask(text + more + pick(List.of("", " ;", " $", "(((((((", " act")), due, text.length() + blanks(more));
            }
        }
        String none = pick(List.of(NO_TOKENS));
        ask(text + " " + none, 1, text.length() + 1);
        ask(text.toString(), telling.open().contains(Grammar.END) ? 0 : 1, text.length());
        ask(text + " \t", telling.open().contains(Grammar.END) ? 0 : 1, text.length() + 2);
    }

    private static int blanks(String more) {
        return more.length() - more.stripLeading().length();
    }

    /** The TOKENS with which the text goes on without a FAULT 1 or 2. */
    private List<String> goodOnes() {
        List<String> good = new ArrayList<>();
        for (String token : telling.open()) {
            if (!token.equals(Grammar.END) && due(token) == 0) {
                good.add(token);
            }
        }
        return good;
    }

    /** A text by lot; brackets are liked, so that much is open at once. */
    private void oneText(int most, int askedOf) {
        begin();
        List<String> good = goodOnes();
        while (!good.isEmpty() && tokens < most && text.length() < 1900) {
            if (lots.nextInt(askedOf) == 0) {
                askAll();
            }
            tell(good.contains("(") && lots.nextInt(3) == 0 ? "(" : pick(good));
            good = goodOnes();
        }
        askAll();
    }

    /** TELLS of one kind, each as short as can be, until there is no room; asked for ahead of each. */
    private void shortTells(String word, int most) {
        begin();
        for (int told = 0; told <= most; told++) {
            DUE.is("room for " + told + " of " + word, goodOnes().contains(word), told < most);
            askAll();
            if (told < most) {
                tell(word);
                finishTell();
            }
        }
    }

    private void finishTell() {
        while (!telling.open().contains(Grammar.END)) {
            List<String> good = goodOnes();
            good.removeAll(List.of("(", "-", "not", "if"));
            String end = good.contains(";") ? ";" : good.contains("do") ? "do" : good.contains("<") ? "<" : "";
            tell(end.isEmpty() ? pick(good) : end);
        }
    }

    public static void main(String[] args) throws IOException {
        Path document = Path.of("../shared/DOC.md");
        if (!Files.exists(document)) {
            System.out.println("there is no " + document + ": its grammar is not looked up");
            DUE.end();
            return;
        }
        Grammar grammar = new Grammar(document);
        DUE.is("the grammar has TOKENS", grammar.tokens().containsAll(Set.of("rope", "<=", "NAME", "INT", ";", "pole")), true);
        DUE.is("so many", grammar.tokens().size(), 17 + 11 + 2);
        for (int seed = 1; seed <= 60; seed++) {
            new GrammarTests(grammar, seed).oneText(80, 2);
        }
        for (int seed = 61; seed <= 90; seed++) {
            new GrammarTests(grammar, seed).oneText(400, 60);
        }
        new GrammarTests(grammar, 91).shortTells("act", 6);
        new GrammarTests(grammar, 92).shortTells("gusts", 8);
        new GrammarTests(grammar, 93).shortTells("reflex", 12);
        DUE.end();
    }
}
