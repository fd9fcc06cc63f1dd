import java.io.IOException;
import java.lang.reflect.Constructor;
import java.lang.reflect.Field;
import java.lang.reflect.Method;
import java.lang.reflect.Modifier;
import java.nio.file.Files;
import java.nio.file.Path;
import java.util.ArrayList;
import java.util.List;
import java.util.Set;
import java.util.TreeSet;
import java.util.regex.Matcher;
import java.util.regex.Pattern;

/** The face of the document, and those rules of LANGUAGE.md that can be looked up in the file or the classes. */
public final class LanguageTests {
    private static final Due DUE = new Due();
    private static final String FACE = """
        int feed(int,int,int,int,int)
        int back(int)
        int read()
        int place()
        boolean pole(int)
        int state(int,int,int)
        int can(int,int)
        int gust(int,boolean)
        int next(int,int,int)
        int fate(int)
        int keep(int)
        int reach(int)
        int lead(int)
        int safe(int)
        int edge(int,int,boolean)
        int doom()
        int borne(int)
        int poles(int)
        int forecast(int)
        void clear()
        int known(int)
        int knownAct(int,int)
        int blind(int,int)
        int blindAct(int,int,int)
        int reflex(int)
        int proof(int)
        int witness(int,int)
        int arrives(int)
        long odds(int,int,int)
        int learn(int)
        int learned(int)
        int forget()
        boolean stand(int)
        int beat(int,int)
        boolean undo()
        int walked(int,int)
        int blame()
        int drill(int,int,int,int,int)
        int hold(int)
        int compare(int,int)
        int count(int)
        """;

    private static String shown(Method m) {
        List<String> types = new ArrayList<>();
        for (Class<?> type : m.getParameterTypes()) {
            types.add(type.getSimpleName());
        }
        return m.getReturnType().getSimpleName() + " " + m.getName() + "(" + String.join(",", types) + ")";
    }

    private static void face() {
        Set<String> want = new TreeSet<>(List.of(FACE.strip().split("\n")));
        Set<String> got = new TreeSet<>();
        for (Method m : RopeSchool.class.getDeclaredMethods()) {
            if (Modifier.isPrivate(m.getModifiers())) {
                continue;
            }
            DUE.is(m + " is public", Modifier.isPublic(m.getModifiers()), true);
            got.add(shown(m));
        }
        DUE.is("the face is " + got + ", due is " + want, got.equals(want), true);
        DUE.is("the class is public and final",
            Modifier.isPublic(RopeSchool.class.getModifiers()) && Modifier.isFinal(RopeSchool.class.getModifiers()), true);
        for (Field f : RopeSchool.class.getDeclaredFields()) {
            DUE.is(f + " is private, or NONE",
                Modifier.isPrivate(f.getModifiers()) || f.getName().equals("NONE") && Modifier.isPublic(f.getModifiers()), true);
        }
        DUE.is("one constructor", RopeSchool.class.getDeclaredConstructors().length, 1);
    }

    private static void classes() {
        List<Class<?>> all = new ArrayList<>(List.of(RopeSchool.class.getDeclaredClasses()));
        Set<String> names = new TreeSet<>();
        for (String line : FACE.strip().split("\n")) {
            names.add(line.substring(line.indexOf(' ') + 1, line.indexOf('(')));
        }
        for (Class<?> c : all) {
            DUE.is(c + " is static, and not public",
                Modifier.isStatic(c.getModifiers()) && !Modifier.isPublic(c.getModifiers()), true);
            for (Method m : c.getDeclaredMethods()) {
                DUE.is(m + " has no name of the face", names.contains(m.getName()), false);
            }
        }
        all.add(RopeSchool.class);
        DUE.is("some twelve classes", all.size() <= 12, true);
        for (Class<?> c : all) {
            int fields = 0;
            for (Field f : c.getDeclaredFields()) {
                boolean fixed = Modifier.isStatic(f.getModifiers());
                fields += fixed ? 0 : 1;
                DUE.is(f + " is final if static", !fixed || Modifier.isFinal(f.getModifiers()), true);
            }
            DUE.is(c + " has some twenty fields", fields <= 20, true);
            for (Method m : c.getDeclaredMethods()) {
                DUE.is(m + " has seven parameters at most", m.getParameterCount() <= 7, true);
            }
            for (Constructor<?> m : c.getDeclaredConstructors()) {
                DUE.is(m + " has seven parameters at most", m.getParameterCount() <= 7, true);
            }
        }
    }

    private static void words(String source) {
        String bare = source.replaceAll("(?s)/\\*.*?\\*/", " ").replaceAll("//[^\n]*", " ");
        String[] refused = {"->", "::", "\\btry\\b", "\\bcatch\\b", "\\bfinally\\b", "\\bsynchronized\\b", "\\bassert\\b",
            "\\bpackage\\b", "\\bprotected\\b", "\\bwhile\\b", "\\bdouble\\b", "\\bfloat\\b", "\\bSystem\\b", "\\bThread\\b",
            "Exact\\b", "\\bMath\\b", "\\bstatic\\s*\\{", "\\bhashCode\\b", "\\btoString\\b", "\\bObject\\b", "\\bvar\\b"};
        for (String pattern : refused) {
            DUE.is("the file has " + pattern, Pattern.compile(pattern).matcher(bare).find(), false);
        }
        Matcher imports = Pattern.compile("\\bimport\\s+([^;]*);").matcher(bare);
        while (imports.find()) {
            DUE.is("import " + imports.group(1), imports.group(1).equals("java.util.Arrays"), true);
        }
        Matcher thrown = Pattern.compile("\\bthrow\\s+new\\s+(\\w+)").matcher(bare);
        while (thrown.find()) {
            DUE.is("throws " + thrown.group(1), Set.of("IllegalStateException", "IllegalArgumentException").contains(thrown.group(1)), true);
        }
        DUE.is("the file has bytes 1 to 127 alone", source.chars().allMatch(c -> c >= 1 && c <= 127), true);
    }

    private static void lengths(List<String> lines) {
        int start = -1;
        String name = "";
        Pattern head = Pattern.compile("^( {4}| {8})(?! |if |for |switch |\\}).*\\) (throws .*)?\\{$");
        for (int i = 0; i < lines.size(); i++) {
            DUE.is("line " + (i + 1) + " has 120 signs at most", lines.get(i).length() <= 120, true);
            if (head.matcher(lines.get(i)).find()) {
                start = i;
                name = lines.get(i);
            }
            String end = name.startsWith("        ") ? "        }" : "    }";
            if (start >= 0 && lines.get(i).equals(end)) {
                DUE.is("some sixty lines in " + name.strip(), i - start + 1 <= 60, true);
                start = -1;
            }
        }
    }

    public static void main(String[] args) throws IOException {
        Path file = Path.of(args.length > 0 ? args[0] : "src/main/java/RopeSchool.java");
        face();
        classes();
        words(Files.readString(file));
        lengths(Files.readAllLines(file));
        DUE.end();
    }
}
