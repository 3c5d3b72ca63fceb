import java.lang.reflect.Constructor;
import java.lang.reflect.Field;
import java.lang.reflect.Method;
import java.lang.reflect.Modifier;
import java.util.Arrays;
import java.util.Map;
import java.util.Set;
import java.util.TreeMap;
import java.util.TreeSet;

/** The public face: every constant and method of the document, and no other member that can be seen. */
public final class FaceTest {
    private static final Map<String, Integer> CONSTANTS = new TreeMap<>();
    private static final Set<String> METHODS = new TreeSet<>(Arrays.asList(
        "int atom(boolean)", "int variable(int)", "int compose(int, int, int)", "int cell(int, int)",
        "boolean learn(int)", "int known(int)", "boolean derivable(int)", "boolean addStep(int, boolean, int)",
        "int step(int, int)", "boolean setSecret(int)", "int secret()", "int search()", "int status()",
        "int traceLength()", "int traceThread(int)", "int value(int)"));

    public static void main(String[] args) {
        constants("ATOM", 1, "VAR", 2, "PAIR", 3, "SENC", 4, "AENC", 5);
        constants("FIELD_KIND", 0, "FIELD_FIRST", 1, "FIELD_SECOND", 2, "FIELD_SIZE", 3);
        constants("NOT_SEARCHED", 0, "SAFE", 1, "ATTACK", 2, "NO_SECRET", 3);
        constants("MAX_CELLS", 64, "MAX_ATOMS", 8, "MAX_VARS", 3, "MAX_SIZE", 32, "MAX_KNOWN", 8);
        constants("THREADS", 3, "MAX_STEPS", 6);
        theClass();
        fields();
        methods();
        Check.end();
    }

    private static void constants(Object... namesAndValues) {
        for (int i = 0; i < namesAndValues.length; i += 2) {
            CONSTANTS.put((String) namesAndValues[i], (Integer) namesAndValues[i + 1]);
        }
    }

    private static void theClass() {
        int modifiers = IntruderSearch.class.getModifiers();
        Check.due("class is public and final", Modifier.isPublic(modifiers) && Modifier.isFinal(modifiers), true);
        Check.due("nested classes", IntruderSearch.class.getDeclaredClasses().length, 0);
        Constructor<?>[] constructors = IntruderSearch.class.getDeclaredConstructors();
        Check.due("constructors", constructors.length, 1);
        Check.due("constructor is public", Modifier.isPublic(constructors[0].getModifiers()), true);
        Check.due("constructor's parameters", constructors[0].getParameterCount(), 0);
    }

    private static void fields() {
        Map<String, Integer> seen = new TreeMap<>();
        int others = 0;
        for (Field field : IntruderSearch.class.getDeclaredFields()) {
            int modifiers = field.getModifiers();
            if (Modifier.isPublic(modifiers)) {
                seen.put(field.getName(), valueOf(field));
            } else {
                Check.due("field " + field.getName() + " is private", Modifier.isPrivate(modifiers), true);
            }
            if (Modifier.isStatic(modifiers)) {
                boolean constant = Modifier.isFinal(modifiers)
                    && (field.getType() == int.class || field.getType() == long.class);
                Check.due("static field " + field.getName() + " is a constant", constant, true);
            } else {
                others++;
            }
        }
        Check.same("constants", seen.toString(), CONSTANTS.toString());
        // The rule says "some forty", so that a few more are still within it.
        Check.due("some forty fields at most", others < 45, true);
    }

    private static int valueOf(Field field) {
        try {
            return field.getInt(null);
        } catch (IllegalAccessException | IllegalArgumentException | NullPointerException e) {
            return Integer.MIN_VALUE;
        }
    }

    private static void methods() {
        Set<String> seen = new TreeSet<>();
        Set<String> publicNames = new TreeSet<>();
        for (String method : METHODS) {
            publicNames.add(method.substring(method.indexOf(' ') + 1, method.indexOf('(')));
        }
        for (Method method : IntruderSearch.class.getDeclaredMethods()) {
            int modifiers = method.getModifiers();
            if (Modifier.isPublic(modifiers)) {
                String types = Arrays.toString(method.getParameterTypes());
                seen.add(method.getReturnType() + " " + method.getName() + "("
                    + types.substring(1, types.length() - 1) + ")");
                Check.due("method " + method.getName() + " is static", Modifier.isStatic(modifiers), false);
            } else {
                Check.due("method " + method.getName() + " is private", Modifier.isPrivate(modifiers), true);
                Check.due("private " + method.getName() + " bears a public name",
                    publicNames.contains(method.getName()), false);
            }
            Check.due("parameters of " + method.getName(), method.getParameterCount() <= 7, true);
        }
        Check.same("methods", seen.toString(), METHODS.toString());
    }
}
