import java.lang.reflect.Constructor;
import java.lang.reflect.Field;
import java.lang.reflect.Member;
import java.lang.reflect.Method;
import java.lang.reflect.Modifier;
import java.util.Arrays;
import java.util.Map;
import java.util.Set;
import java.util.TreeMap;
import java.util.TreeSet;

/** "The public face": all of its members and none beside them that is not private. */
public final class FaceTest {
    private static final Map<String, Integer> CONSTANTS = new TreeMap<>();
    private static final Set<String> METHODS = new TreeSet<>(Arrays.asList(
            "void clear()", "int leaf(int,int,int)", "int op(int)", "int begin(int)", "int feed(int,int)",
            "int phase()", "int height()", "int room()", "int length()", "int lastHit()",
            "boolean accepts()", "boolean allowed(int)", "int size(int)", "int largest(int)",
            "int smallest(int)", "boolean holds(int,int)"));

    static {
        CONSTANTS.put("BUILDING", 0);
        CONSTANTS.put("WHOLE", 1);
        CONSTANTS.put("SEARCH", 2);
        CONSTANTS.put("CAT", 1);
        CONSTANTS.put("ALT", 2);
        CONSTANTS.put("STAR", 3);
        CONSTANTS.put("PLUS", 4);
        CONSTANTS.put("OPT", 5);
        CONSTANTS.put("UNBOUNDED", -1);
        CONSTANTS.put("OK", 0);
        CONSTANTS.put("WRONG_PHASE", -1);
        CONSTANTS.put("BAD", -2);
        CONSTANTS.put("FULL", -3);
        CONSTANTS.put("TOO_FEW", -4);
        CONSTANTS.put("NOT_ONE", -5);
        CONSTANTS.put("MAX_TEXT", 4000);
        CONSTANTS.put("MAX_TIMES", 16);
    }

    public static void main(String[] args) throws IllegalAccessException {
        Check check = new Check();
        check.at("face");
        int modifiers = CountingRegex.class.getModifiers();
        check.due("public class", Modifier.isPublic(modifiers), true);
        check.due("final class", Modifier.isFinal(modifiers), true);
        check.due("nested classes", CountingRegex.class.getDeclaredClasses().length, 0);
        checkConstants(check);
        checkMethods(check);
        checkConstructors(check);
        check.finish();
    }

    private static void checkConstants(Check check) throws IllegalAccessException {
        Map<String, Integer> found = new TreeMap<>();
        for (Field field : CountingRegex.class.getDeclaredFields()) {
            if (isPrivate(field)) {
                continue;
            }
            if (field.getModifiers() == (Modifier.PUBLIC | Modifier.STATIC | Modifier.FINAL) && field.getType() == int.class) {
                found.put(field.getName(), field.getInt(null));
            } else {
                check.report("field " + field + " is not a public int constant");
            }
        }
        if (!found.equals(CONSTANTS)) {
            check.report("constants are " + found + ", due are " + CONSTANTS);
        }
    }

    private static void checkMethods(Check check) {
        Set<String> open = new TreeSet<>();
        Set<String> openNames = new TreeSet<>();
        for (Method method : CountingRegex.class.getDeclaredMethods()) {
            if (!isPrivate(method)) {
                openNames.add(method.getName());
                check.due(method + " is public", Modifier.isPublic(method.getModifiers()), true);
                check.due(method + " is static", Modifier.isStatic(method.getModifiers()), false);
                open.add(method.getReturnType().getSimpleName() + " " + method.getName()
                        + parameters(method.getParameterTypes()));
            }
        }
        if (!open.equals(METHODS)) {
            check.report("methods are " + open + ", due are " + METHODS);
        }
        for (Method method : CountingRegex.class.getDeclaredMethods()) {
            if (isPrivate(method) && openNames.contains(method.getName())) {
                check.report("private " + method + " bears the name of a public method");
            }
        }
    }

    private static void checkConstructors(Check check) {
        Constructor<?>[] constructors = CountingRegex.class.getDeclaredConstructors();
        check.due("number of constructors", constructors.length, 1);
        check.due("public constructor", Modifier.isPublic(constructors[0].getModifiers()), true);
        String taken = parameters(constructors[0].getParameterTypes());
        if (!taken.equals("(int,int)")) {
            check.report("the constructor takes " + taken);
        }
    }

    private static String parameters(Class<?>[] types) {
        StringBuilder text = new StringBuilder("(");
        for (int i = 0; i < types.length; i++) {
            text.append(i == 0 ? "" : ",").append(types[i].getSimpleName());
        }
        return text.append(")").toString();
    }

    private static boolean isPrivate(Member member) {
        return Modifier.isPrivate(member.getModifiers());
    }
}
