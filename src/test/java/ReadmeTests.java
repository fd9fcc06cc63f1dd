import java.io.IOException;
import java.lang.reflect.Method;
import java.lang.reflect.Modifier;
import java.nio.file.Files;
import java.nio.file.Path;
import java.util.HashSet;
import java.util.Set;
import java.util.regex.Matcher;
import java.util.regex.Pattern;

/** What README.md shows of the class is so: each of its calls that has an answer behind it is made. */
public final class ReadmeTests {
    private static final Due DUE = new Due();
    private static final Pattern CALL = Pattern.compile("^ +school\\.(\\w+)\\((.*)\\);\\s*// (-?[0-9]+|true|false)\\b.*");
    private static final Pattern TELL = Pattern.compile("^ +tell\\(school, \"(.*)\"\\);\\s*// ([0-9]+)\\b.*");

    private static Object argument(String written) {
        boolean isBoolean = written.equals("true") || written.equals("false");
        return isBoolean ? (Object) Boolean.valueOf(written) : (Object) Integer.valueOf(written);
    }

    private static Object call(RopeSchool school, String name, String arguments) throws ReflectiveOperationException {
        String[] written = arguments.isEmpty() ? new String[0] : arguments.split(", *");
        Object[] values = new Object[written.length];
        for (int i = 0; i < written.length; i++) {
            values[i] = argument(written[i]);
        }
        for (Method method : RopeSchool.class.getMethods()) {
            if (method.getName().equals(name) && method.getParameterCount() == values.length) {
                return method.invoke(school, values);
            }
        }
        return "no such call";
    }

    /** README.md leaves out no call of the face. */
    private static void names(String readme) {
        Set<String> named = new HashSet<>();
        Matcher words = Pattern.compile("[A-Za-z]+").matcher(readme);
        while (words.find()) {
            named.add(words.group());
        }
        for (Method method : RopeSchool.class.getDeclaredMethods()) {
            if (Modifier.isPublic(method.getModifiers())) {
                DUE.is("README.md speaks of " + method.getName(), named.contains(method.getName()), true);
            }
        }
    }

    public static void main(String[] args) throws IOException, ReflectiveOperationException {
        RopeSchool school = new RopeSchool();
        String readme = Files.readString(Path.of("README.md"));
        int calls = 0;
        for (String line : readme.split("\n")) {
            Matcher tell = TELL.matcher(line);
            Matcher call = CALL.matcher(line);
            if (tell.matches()) {
                DUE.is(line.strip(), Due.read(school, tell.group(1)), Integer.parseInt(tell.group(2)));
                calls++;
            } else if (call.matches()) {
                String got = String.valueOf(call(school, call.group(1), call.group(2)));
                DUE.is(line.strip() + " (it was " + got + ")", got.equals(call.group(3)), true);
                calls++;
            } else {
                DUE.is("an answer is shown in " + line.strip(), line.matches(" +school\\.\\w+\\([^\\[]*\\);.*"), false);
            }
        }
        DUE.is("README.md shows calls", calls > 30, true);
        names(readme);
        DUE.end();
    }
}
