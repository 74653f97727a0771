import java.io.IOException;
import java.lang.reflect.Field;
import java.lang.reflect.Method;
import java.lang.reflect.Modifier;
import java.nio.file.Files;
import java.nio.file.Path;
import java.util.LinkedHashMap;
import java.util.List;
import java.util.Map;
import java.util.Set;
import java.util.TreeSet;
import java.util.regex.Matcher;
import java.util.regex.Pattern;
import java.util.stream.Stream;

/** Those rules of LANGUAGE.md that can be read off the class or the text of its one file. */
public final class LanguageTest {
    private static final Path HOME = Path.of("src/main/java");
    private static final String FORBIDDEN = "import package interface enum record extends implements float double "
        + "String Math Integer System Arrays null this super throw throws try catch finally synchronized assert "
        + "instanceof Object var";
    private static final Set<Class<?>> TYPES = Set.of(
        int.class, long.class, short.class, byte.class, char.class, boolean.class,
        int[].class, long[].class, short[].class, byte[].class, char[].class, boolean[].class);
    private static final int MOST_DEEP = 6;
    private static final int MOST_LINES = 60;
    private static final int MOST_PARAMETERS = 7;
    private static final int MOST_FIELDS = 40;

    private static final Check CHECK = new Check();

    public static void main(String[] args) throws IOException {
        try (Stream<Path> files = Files.walk(HOME)) {
            CHECK.due("rule 1: files", (int) files.filter(Files::isRegularFile).count(), 1);
        }
        String code = withoutComments(Files.readString(HOME.resolve("TheorySolver.java")));
        members();
        words(code);
        arrays(code);
        loops(code);
        calls(methodBodies(code));
        CHECK.end();
    }

    private static String withoutComments(String text) {
        return text.replaceAll("(?s)/\\*.*?\\*/", "").replaceAll("//[^\\n]*", "");
    }

    private static void members() {
        CHECK.due("rule 1: nested classes", TheorySolver.class.getDeclaredClasses().length, 0);
        int fields = 0;
        for (Field field : TheorySolver.class.getDeclaredFields()) {
            boolean constant = Modifier.isStatic(field.getModifiers());
            fields += constant ? 0 : 1;
            CHECK.due("rule 2: " + field, TYPES.contains(field.getType()), true);
            boolean unchanging = Modifier.isFinal(field.getModifiers());
            boolean whole = field.getType() == int.class || field.getType() == long.class;
            CHECK.due("rule 5: " + field, !constant || unchanging && whole, true);
            CHECK.due("rule 4: " + field + " is never assigned", !field.getType().isArray() || unchanging, true);
        }
        CHECK.due("rule 10: fields", fields <= MOST_FIELDS, true);
        Set<String> names = new TreeSet<>();
        for (Method method : TheorySolver.class.getDeclaredMethods()) {
            CHECK.due("rule 1: one method is called " + method.getName(), names.add(method.getName()), true);
            CHECK.due("rule 10: " + method, method.getParameterCount() <= MOST_PARAMETERS, true);
            CHECK.due("rule 4: " + method, method.getReturnType().isArray(), false);
            for (Class<?> type : method.getParameterTypes()) {
                CHECK.due("rule 2: " + method, TYPES.contains(type), true);
            }
        }
    }

    private static void words(String code) {
        for (String word : FORBIDDEN.split(" ")) {
            CHECK.due("no " + word, Pattern.compile("\\b" + word + "\\b").matcher(code).find(), false);
        }
        CHECK.due("rule 1: one class", code.split("\\bclass\\b").length, 2);
        // Nothing has members but the object itself, so no dot is needed; nor a lambda, nor a text.
        for (String sign : List.of(".", "->", "::", "\"", "@")) {
            CHECK.due("no " + sign, code.contains(sign), false);
        }
    }

    private static void arrays(String code) {
        Pattern made = Pattern.compile("    private final \\w+\\[\\] \\w+ = new \\w+\\[[A-Z_]+\\];");
        for (String line : code.split("\n")) {
            if (line.contains("new ")) {
                CHECK.due("rule 4: " + line, made.matcher(line).matches(), true);
            }
        }
    }

    /** A counter that goes up by one against a bound is an end that can be seen. */
    private static void loops(String code) {
        CHECK.due("rule 8: while or do", Pattern.compile("\\b(?:while|do)\\b").matcher(code).find(), false);
        Pattern counted = Pattern.compile("for \\(int (\\w+) = [^;]+; \\1 < \\w+(?: && [^;]+)?; \\1\\+\\+\\) \\{");
        for (String line : code.split("\n")) {
            if (line.contains("for (")) {
                CHECK.due("rule 8: " + line, counted.matcher(line).find(), true);
            }
        }
    }

    private static Map<String, String> methodBodies(String code) {
        Map<String, String> bodies = new LinkedHashMap<>();
        Pattern method = Pattern.compile("(?ms)^    (?:public|private) [\\w ]*?(\\w+)\\([^)]*\\) \\{\\n(.*?)^    \\}$");
        Matcher found = method.matcher(code);
        while (found.find()) {
            bodies.put(found.group(1), found.group(2));
        }
        int constructors = 1;
        int declared = TheorySolver.class.getDeclaredMethods().length;
        CHECK.due("methods found in the text", bodies.size(), declared + constructors);
        return bodies;
    }

    private static void calls(Map<String, String> bodies) {
        Pattern inside = Pattern.compile("\\b(?:" + String.join("|", bodies.keySet()) + ")\\([^()]*\\b\\w+\\(");
        for (String name : bodies.keySet()) {
            String body = bodies.get(name);
            CHECK.due("rule 10: lines of " + name, body.split("\n").length <= MOST_LINES, true);
            CHECK.due("rule 10: a call inside a call's arguments in " + name, inside.matcher(body).find(), false);
            CHECK.due("rules 8 and 10: calls from " + name, depth(name, bodies, 1) <= MOST_DEEP, true);
        }
    }

    /** The longest chain of calls that begins at the method; one that comes back to itself ends as too long. */
    private static int depth(String name, Map<String, String> bodies, int above) {
        int deepest = above;
        for (String other : bodies.keySet()) {
            boolean called = Pattern.compile("\\b" + other + "\\(").matcher(bodies.get(name)).find();
            if (called && deepest <= MOST_DEEP) {
                deepest = Math.max(deepest, depth(other, bodies, above + 1));
            }
        }
        return deepest;
    }
}
