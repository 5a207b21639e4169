import java.lang.reflect.Constructor;
import java.lang.reflect.Field;
import java.lang.reflect.Method;
import java.lang.reflect.Modifier;
import java.util.HashSet;
import java.util.Set;
import java.util.TreeSet;

/** The class has the document's public face, nothing more is seen from outside, and LANGUAGE.md's types. */
public final class FaceTest {
    private static final Set<String> FACE = Set.of(
        "public static final int BAD_ARG", "public static final int FULL",
        "public static final int BAD_STACK", "public static final int NONE",
        "public ProcessLog()",
        "public int event(int)", "public int skip()", "public int seq()", "public int choice()",
        "public int both()", "public int loop()", "public int option()", "public int steps()",
        "public int depth()", "public void discard()", "public int define()", "public int feed(int)",
        "public int undo()", "public void restart()", "public int length()", "public int at(int)",
        "public boolean mayStop()", "public int next()", "public int remaining(int)",
        "public int advice()", "public int needed()");
    private static final Set<Class<?>> TYPES = Set.of(
        int.class, long.class, short.class, byte.class, char.class, boolean.class,
        int[].class, long[].class, short[].class, byte[].class, char[].class, boolean[].class);
    private static final int MOST_FIELDS = 40;
    private static final int MOST_PARAMETERS = 7;

    private static int wrong = 0;

    private static void hold(boolean holds, String what) {
        if (!holds) {
            wrong++;
            System.out.println("does not hold: " + what);
        }
    }

    private static String face(String generic) {
        return generic.replace("ProcessLog.", "");
    }

    private static void checkFields(Set<String> seen) {
        int changing = 0;
        for (Field f : ProcessLog.class.getDeclaredFields()) {
            boolean fixed = Modifier.isStatic(f.getModifiers());
            hold(TYPES.contains(f.getType()), f + " has an allowed type");
            hold(!fixed || Modifier.isFinal(f.getModifiers()), f + " is final");
            hold(!fixed || f.getType() == int.class || f.getType() == long.class, f + " is int or long");
            changing += fixed ? 0 : 1;
            if (!Modifier.isPrivate(f.getModifiers())) {
                seen.add(face(f.toGenericString()));
            }
        }
        hold(changing <= MOST_FIELDS, "at most " + MOST_FIELDS + " fields");
    }

    private static void checkMethods(Set<String> seen) {
        Set<String> names = new HashSet<>();
        for (Method m : ProcessLog.class.getDeclaredMethods()) {
            hold(m.getParameterCount() <= MOST_PARAMETERS, m + " has few parameters");
            hold(!m.getReturnType().isArray(), m + " answers no array");
            hold(names.add(m.getName()), m + " has a name of its own");
            if (!Modifier.isPrivate(m.getModifiers())) {
                seen.add(face(m.toGenericString()));
            }
        }
    }

    public static void main(String[] args) {
        Set<String> seen = new TreeSet<>();
        checkFields(seen);
        checkMethods(seen);
        for (Constructor<?> c : ProcessLog.class.getDeclaredConstructors()) {
            seen.add(c.toGenericString());
        }
        hold(seen.equals(FACE), "the face is the document's, but it is " + seen);
        hold(Modifier.isPublic(ProcessLog.class.getModifiers()), "the class is public");
        hold(Modifier.isFinal(ProcessLog.class.getModifiers()), "the class is final");
        hold(ProcessLog.class.getDeclaredClasses().length == 0, "there is no nested class");
        hold(ProcessLog.class.getPackageName().isEmpty(), "there is no package");
        System.out.println(wrong == 0 ? "the face is as due" : wrong + " things do not hold");
        if (wrong != 0) {
            System.exit(1);
        }
    }
}
