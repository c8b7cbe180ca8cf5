import java.io.IOException;
import java.lang.reflect.Constructor;
import java.lang.reflect.Field;
import java.lang.reflect.Method;
import java.lang.reflect.Modifier;
import java.nio.charset.StandardCharsets;
import java.nio.file.Files;
import java.nio.file.Paths;
import java.util.ArrayList;
import java.util.Arrays;
import java.util.List;
import java.util.Set;
import java.util.TreeSet;

/** The face of the document, and those rules of LANGUAGE.md that a program can look at. */
public final class LanguageTest {
    private static final Check CHECK = new Check();
    private static final String[] FACE = {"int feed(int,int,int,int,int)", "int text(int)", "int fault(int)",
        "int named(int,int)", "int trade(int,int)", "int place(int)", "int work(int,int)", "long law(int,int)",
        "int length(int)", "boolean appoint(int)", "int put(int,int)", "boolean swap(int,int)", "int go(int)",
        "int ahead(int,int,int)", "int opener(int)", "int longAt(int)", "int doneWhen(int)", "int soon(int)",
        "int out(int)", "int missing(int)", "int plan(int)", "int best(int,int)", "int fair(int)", "int pairs()",
        "int power(int)", "int even(int)", "int rare()", "int rests(int,int)", "int rest(int,int,int)",
        "long sure(int,int)", "int note(int,int,boolean)", "int strike(int)", "boolean toldBy(int)", "int hours(int)",
        "int ask(int,int)", "int chance(int,int,int)", "int tried(int,int,int)", "int undo()", "int keep()",
        "int back()", "int count(int)"};
    private static final String[] NO_WORDS = {"->", "::", "synchronized", "assert", "finally", "catch", "goto", "Exact(",
        "System.out", "System.in", "System.nano", "System.current", "Random", "instanceof", "static {", "@", "\t", "\" +",
        "+ \"", "double", "float"};

    private static String signature(Method m) {
        List<String> types = new ArrayList<>();
        for (Class<?> type : m.getParameterTypes()) {
            types.add(type.getName());
        }
        return m.getReturnType().getName() + " " + m.getName() + "(" + String.join(",", types) + ")";
    }

    private static void face() throws ReflectiveOperationException {
        Class<?> c = DayOpeners.class;
        CHECK.due("the class is public and final", c.getModifiers(), Modifier.PUBLIC | Modifier.FINAL);
        Set<String> left = new TreeSet<>(Arrays.asList(FACE));
        for (Method m : c.getDeclaredMethods()) {
            if (Modifier.isPrivate(m.getModifiers())) {
                continue;
            }
            CHECK.due(signature(m) + " is public", m.getModifiers(), Modifier.PUBLIC);
            CHECK.due(signature(m) + " stands in the document", left.remove(signature(m)), true);
            CHECK.due(signature(m) + " throws", m.getExceptionTypes().length, m.getName().equals("trade") ? 2 : 0);
        }
        CHECK.due("what is not there of " + left, left.size(), 0);
        Constructor<?>[] constructors = c.getDeclaredConstructors();
        CHECK.due("constructors", constructors.length, 1);
        CHECK.due("its parameters", constructors[0].getParameterCount(), 0);
        CHECK.due("it is public", constructors[0].getModifiers(), Modifier.PUBLIC);
        for (Field f : c.getDeclaredFields()) {
            boolean none = f.getName().equals("NONE");
            CHECK.due(f.getName() + " is not seen outside", Modifier.isPrivate(f.getModifiers()), !none);
        }
        CHECK.due("NONE", DayOpeners.class.getField("NONE").getInt(null), -1);
    }

    private static void classes() {
        Set<String> names = new TreeSet<>();
        for (String s : FACE) {
            names.add(s.substring(s.indexOf(' ') + 1, s.indexOf('(')));
        }
        List<Class<?>> all = new ArrayList<>(Arrays.asList(DayOpeners.class.getDeclaredClasses()));
        CHECK.due("no more than twelve classes, it has " + (all.size() + 1), all.size() + 1 <= 12, true);
        for (Class<?> c : all) {
            int m = c.getModifiers();
            CHECK.due(c + " is static and not public", Modifier.isStatic(m) && !Modifier.isPublic(m), true);
            for (Method method : c.getDeclaredMethods()) {
                CHECK.due(method + " bears no name of the face", names.contains(method.getName()), false);
            }
        }
        all.add(DayOpeners.class);
        for (Class<?> c : all) {
            int fields = 0;
            for (Field f : c.getDeclaredFields()) {
                boolean still = Modifier.isStatic(f.getModifiers());
                fields += still ? 0 : 1;
                CHECK.due(f + " is final if it is static", still && !Modifier.isFinal(f.getModifiers()), false);
            }
            CHECK.due(c + " has some twenty fields at most, it has " + fields, fields <= 20, true);
            for (Method method : c.getDeclaredMethods()) {
                CHECK.due(method + " takes at most seven", method.getParameterCount() <= 7, true);
                boolean own = !Modifier.isPrivate(method.getModifiers());
                boolean twice = c == DayOpeners.class && !own && names.contains(method.getName());
                CHECK.due(method + " bears no name of the face", twice, false);
            }
        }
    }

    private static void source(String file) throws IOException {
        String s = new String(Files.readAllBytes(Paths.get(file)), StandardCharsets.ISO_8859_1);
        for (int i = 0; i < s.length(); i++) {
            if (s.charAt(i) > 126) {
                CHECK.due("sign at " + i, s.charAt(i), ' ');
            }
        }
        for (String word : NO_WORDS) {
            CHECK.due("where " + word + " stands", s.indexOf(word), -1);
        }
        String[] lines = s.split("\n");
        int imports = 0;
        int begun = -1;
        for (int i = 0; i < lines.length; i++) {
            String line = lines[i];
            imports += line.startsWith("import ") ? 1 : 0;
            CHECK.due("line " + (i + 1) + " is not too wide", line.length() <= 125, true);
            String in = line.trim();
            boolean begins = in.endsWith("{") && in.contains("(") && !in.startsWith("if ") && !in.startsWith("for ")
                && !in.startsWith("while ") && !in.startsWith("switch ") && !in.startsWith("}") && !in.startsWith("||");
            if (begins) {
                begun = i;
            }
            if (begun >= 0 && (in.equals("}") && line.indexOf('}') == lines[begun].length() - lines[begun].trim().length())) {
                CHECK.due("lines of the method at " + (begun + 1) + " are some sixty at most", i - begun <= 60, true);
                begun = -1;
            }
        }
        CHECK.due("imports", imports, 1);
        CHECK.due("the import", s.contains("import java.util.NoSuchElementException;"), true);
    }

    public static void main(String[] args) throws IOException, ReflectiveOperationException {
        face();
        classes();
        source(args[0] + "/src/main/java/DayOpeners.java");
        CHECK.ends();
    }
}
