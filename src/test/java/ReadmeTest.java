import java.io.IOException;
import java.lang.reflect.InvocationTargetException;
import java.lang.reflect.Method;
import java.nio.file.Files;
import java.nio.file.Paths;
import java.util.List;
import java.util.Set;
import java.util.TreeSet;
import java.util.regex.Matcher;
import java.util.regex.Pattern;

/** What README.md shows: every call with an answer behind it is made, and every call of the face is told of. */
public final class ReadmeTest {
    private static final Check CHECK = new Check();
    private static final Pattern CALL = Pattern.compile("x\\.(\\w+)\\(([^)]*)\\);(?:\\s*// (\\S+?)(?:[:,].*)?)?");

    private static Method named(String name) {
        for (Method method : DayOpeners.class.getMethods()) {
            if (method.getName().equals(name)) {
                return method;
            }
        }
        throw new IllegalStateException("no such call: " + name);
    }

    private static Object[] argumentsOf(Method method, String told) {
        String[] words = told.isEmpty() ? new String[0] : told.split(",\\s*");
        Object[] arguments = new Object[words.length];
        for (int i = 0; i < words.length; i++) {
            boolean truth = method.getParameterTypes()[i] == boolean.class;
            arguments[i] = truth ? (Object) Boolean.valueOf(words[i]) : (Object) Integer.decode(words[i]);
        }
        return arguments;
    }

    private static String answer(DayOpeners x, Method method, Object[] arguments) throws IllegalAccessException {
        try {
            return String.valueOf(method.invoke(x, arguments));
        } catch (InvocationTargetException e) {
            return e.getCause().getClass().getSimpleName();
        }
    }

    private static int examples(List<String> lines) throws IllegalAccessException {
        DayOpeners x = new DayOpeners();
        int made = 0;
        for (String line : lines) {
            Matcher call = CALL.matcher(line);
            if (line.startsWith("DayOpeners x = new DayOpeners();")) {
                x = new DayOpeners();
            } else if (line.startsWith("x.")) {
                CHECK.due("it can be read: " + line, call.matches(), true);
                Method method = named(call.group(1));
                String got = answer(x, method, argumentsOf(method, call.group(2)));
                CHECK.due(line + " answers " + got, call.group(3) == null || got.equals(call.group(3).replace("NONE", "-1")), true);
                made++;
            }
        }
        return made;
    }

    private static void tellsOfAll(String text) {
        Set<String> names = new TreeSet<>();
        for (Method method : DayOpeners.class.getDeclaredMethods()) {
            if (java.lang.reflect.Modifier.isPublic(method.getModifiers())) {
                names.add(method.getName());
            }
        }
        for (String name : names) {
            CHECK.due("README.md tells of " + name, text.contains("`" + name + "`") || text.contains("`" + name + "("), true);
        }
    }

    /** Each test has a row in README.md's table. */
    private static void tests(String root, String text) throws IOException {
        for (String name : new java.io.File(root, "src/test/java").list()) {
            if (name.endsWith("Test.java")) {
                CHECK.due("README.md tells of " + name, text.contains("`" + name.replace(".java", "") + "`"), true);
            }
        }
        CHECK.due("README.md tells how tests are run", text.contains(".ci/run"), true);
    }

    public static void main(String[] args) throws IOException, IllegalAccessException {
        List<String> lines = Files.readAllLines(Paths.get(args[0], "README.md"));
        String text = String.join("\n", lines);
        CHECK.due("examples made", examples(lines) > 20, true);
        tellsOfAll(text);
        tests(args[0], text);
        CHECK.ends();
    }
}
