import java.lang.reflect.Constructor;
import java.lang.reflect.Field;
import java.lang.reflect.Method;
import java.lang.reflect.Modifier;
import java.util.Set;
import java.util.TreeSet;

/** The public face: just the constants, the constructor and the methods of the document. */
public final class FaceTest {
    private static final String[] FACE = {
        "BAD_ARG = -1000", "FULL = -2000", "NONE = -3000", "ENDLESS = -4000",
        "TheorySolver()",
        "int atom(int,int,int)", "int literal(int)", "void scrap()", "int clause()", "int fact(int)",
        "int open()", "int close()", "int atoms()", "int clauses()", "boolean possible()",
        "boolean implied(int)", "boolean equal(int,int)", "boolean apart(int,int)",
        "int least(int,int)", "int pattern(int)", "int patterns()", "boolean without(int)",
        "int undecided()", "int spare()"
    };

    public static void main(String[] args) throws Exception {
        Check check = new Check();
        Set<String> want = new TreeSet<>(Set.of(FACE));
        Set<String> got = visibleMembers();
        for (String member : want) {
            check.due("has " + member, got.contains(member), true);
        }
        for (String member : got) {
            check.due("may have " + member, want.contains(member), true);
        }
        int modifiers = TheorySolver.class.getModifiers();
        check.due("is public", Modifier.isPublic(modifiers), true);
        check.due("is final", Modifier.isFinal(modifiers), true);
        check.end();
    }

    private static Set<String> visibleMembers() throws Exception {
        Set<String> found = new TreeSet<>();
        for (Field field : TheorySolver.class.getDeclaredFields()) {
            if (!Modifier.isPrivate(field.getModifiers())) {
                found.add(field.getName() + " = " + field.get(null));
            }
        }
        for (Constructor<?> made : TheorySolver.class.getDeclaredConstructors()) {
            found.add("TheorySolver" + parameters(made.getParameterTypes()));
        }
        for (Method method : TheorySolver.class.getDeclaredMethods()) {
            if (!Modifier.isPrivate(method.getModifiers())) {
                found.add(method.getReturnType() + " " + method.getName() + parameters(method.getParameterTypes()));
            }
        }
        return found;
    }

    private static String parameters(Class<?>[] types) {
        StringBuilder text = new StringBuilder();
        for (Class<?> type : types) {
            text.append(text.length() == 0 ? "" : ",").append(type);
        }
        return "(" + text + ")";
    }
}
