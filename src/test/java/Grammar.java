import java.io.IOException;
import java.nio.file.Files;
import java.nio.file.Path;
import java.util.ArrayDeque;
import java.util.ArrayList;
import java.util.Deque;
import java.util.HashSet;
import java.util.LinkedHashMap;
import java.util.List;
import java.util.Map;
import java.util.Set;
import java.util.TreeSet;
import java.util.regex.Matcher;
import java.util.regex.Pattern;

/**
 * The grammar as it stands in the document, read from there: which TOKENS a text can go on with. It knows no kinds of
 * TELLS and no order of operators; a way is what must still come, and all ways are followed at once.
 */
final class Grammar {
    /** Behind the last TOKEN of a whole text. */
    static final String END = "";

    /** A part of a rule: a TOKEN, a rule's name, a row of parts, one of several, or any number of times. */
    private record Part(char kind, String name, List<Part> parts) {
    }

    private static final Part NOTHING = new Part('&', "", List.of());

    private final Map<String, Part> rules = new LinkedHashMap<>();
    private Matcher marks;
    private String mark = "";

    Grammar(Path document) throws IOException {
        String told = "";
        for (String line : Files.readAllLines(document)) {
            told = line.strip().startsWith("text: ") ? line.strip() : told;
        }
        marks = Pattern.compile("'[^']*'|[A-Za-z]+|[^\\s]").matcher(told);
        pass();
        while (!mark.isEmpty()) {
            String name = pass();
            pass();
            rules.put(name, choice());
            pass();
        }
    }

    private String pass() {
        String passed = mark;
        mark = marks.find() ? marks.group() : "";
        return passed;
    }

    private Part choice() {
        List<Part> several = new ArrayList<>(List.of(row()));
        while (mark.equals("|")) {
            pass();
            several.add(row());
        }
        return new Part('|', "", several);
    }

    private Part row() {
        List<Part> parts = new ArrayList<>();
        while (!mark.matches("[|.)}\\]]?")) {
            String passed = pass();
            switch (passed.charAt(0)) {
                case '(' -> parts.add(choice());
                case '[' -> parts.add(new Part('|', "", List.of(NOTHING, choice())));
                case '{' -> parts.add(new Part('*', "", List.of(choice())));
                case '\'' -> parts.add(new Part('t', passed.substring(1, passed.length() - 1), List.of()));
                default -> parts.add(new Part(passed.matches("NAME|INT") ? 't' : 'r', passed, List.of()));
            }
            if ("([{".indexOf(passed.charAt(0)) >= 0) {
                pass();
            }
        }
        return new Part('&', "", parts);
    }

    /** All TOKENS in quotes, and NAME and INT. */
    Set<String> tokens() {
        Set<String> all = new TreeSet<>();
        rules.values().forEach(part -> gather(part, all));
        return all;
    }

    private static void gather(Part part, Set<String> all) {
        if (part.kind == 't') {
            all.add(part.name);
        }
        part.parts.forEach(inner -> gather(inner, all));
    }

    /** What is open behind a row of TOKENS: for each TOKEN that can come the ways that begin with it. */
    private Set<List<Part>> unfolded(Set<List<Part>> ways) {
        Set<List<Part>> met = new HashSet<>(ways);
        Set<List<Part>> ready = new HashSet<>();
        Deque<List<Part>> open = new ArrayDeque<>(ways);
        while (!open.isEmpty()) {
            List<Part> way = open.pop();
            if (way.isEmpty() || way.get(0).kind == 't') {
                ready.add(way);
                continue;
            }
            Part first = way.get(0);
            List<Part> rest = way.subList(1, way.size());
            List<List<Part>> heads = new ArrayList<>();
            switch (first.kind) {
                case 'r' -> heads.add(List.of(rules.get(first.name)));
                case '&' -> heads.add(first.parts);
                case '|' -> first.parts.forEach(one -> heads.add(List.of(one)));
                default -> {
                    heads.add(List.of());
                    heads.add(List.of(first.parts.get(0), first));
                }
            }
            for (List<Part> head : heads) {
                List<Part> longer = new ArrayList<>(head);
                longer.addAll(rest);
                if (met.add(longer)) {
                    open.push(longer);
                }
            }
        }
        return ready;
    }

    /** A text that is being told: TOKEN by TOKEN. */
    final class Telling {
        private Set<List<Part>> ways = unfolded(Set.of(List.of(new Part('r', "text", List.of()))));

        /** The TOKENS with which a text goes on; END if it may end here. */
        Set<String> open() {
            Set<String> all = new TreeSet<>();
            ways.forEach(way -> all.add(way.isEmpty() ? END : way.get(0).name));
            return all;
        }

        void tell(String token) {
            Set<List<Part>> rests = new HashSet<>();
            for (List<Part> way : ways) {
                if (!way.isEmpty() && way.get(0).name.equals(token)) {
                    rests.add(way.subList(1, way.size()));
                }
            }
            ways = unfolded(rests);
        }
    }
}
