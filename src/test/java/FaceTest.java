import java.lang.reflect.Field;
import java.lang.reflect.Method;
import java.lang.reflect.Modifier;
import java.util.Set;
import java.util.TreeSet;

/** The face is the document's, and nothing else of the class can be seen from outside. */
public final class FaceTest {
    private static final Set<String> METHODS = Set.of(
            "thing 1", "clear 0", "put 2", "set 3", "door 2", "turn 3", "take 2", "give 3", "drop 2", "go 2",
            "count 1", "told 2", "held 2", "space 2", "loses 3", "sees 2", "barrier 2", "scope 2", "hears 1");
    private static final Set<String> CONSTANTS = Set.of(
            "NONE -1", "UNKNOWN -2", "OUTSIDE -3", "RING -4", "APART -5", "BARRED -6", "ROOM -7");

    public static void main(String[] args) throws IllegalAccessException {
        Class<LitReach> type = LitReach.class;
        boolean right = due("the class", Modifier.toString(type.getModifiers()), "public final");
        right &= due("constructors", type.getDeclaredConstructors().length, 1);
        right &= due("public constructors without parameters", countPlainConstructors(type), 1);
        right &= due("methods", methodsSeen(type), new TreeSet<>(METHODS));
        right &= due("constants", constantsSeen(type), new TreeSet<>(CONSTANTS));
        if (!right) {
            System.exit(1);
        }
        System.out.println("the face is as due");
    }

    private static boolean due(String what, Object got, Object want) {
        boolean same = got.equals(want);
        if (!same) {
            System.out.println(what + ": " + got + ", due is " + want);
        }
        return same;
    }

    private static int countPlainConstructors(Class<?> type) {
        int n = 0;
        for (var constructor : type.getConstructors()) {
            if (constructor.getParameterCount() == 0) {
                n++;
            }
        }
        return n;
    }

    private static Set<String> methodsSeen(Class<?> type) {
        Set<String> seen = new TreeSet<>();
        for (Method method : type.getDeclaredMethods()) {
            if (!Modifier.isPrivate(method.getModifiers())) {
                boolean plain = Modifier.toString(method.getModifiers()).equals("public") && takesAndAnswersInts(method);
                seen.add(method.getName() + " " + method.getParameterCount() + (plain ? "" : " other"));
            }
        }
        return seen;
    }

    private static boolean takesAndAnswersInts(Method method) {
        for (Class<?> parameter : method.getParameterTypes()) {
            if (parameter != int.class) {
                return false;
            }
        }
        return method.getReturnType() == int.class;
    }

    private static Set<String> constantsSeen(Class<?> type) throws IllegalAccessException {
        Set<String> seen = new TreeSet<>();
        for (Field field : type.getDeclaredFields()) {
            if (!Modifier.isPrivate(field.getModifiers())) {
                boolean plain = Modifier.toString(field.getModifiers()).equals("public static final")
                        && field.getType() == int.class;
                seen.add(field.getName() + " " + (plain ? field.getInt(null) : "other"));
            }
        }
        return seen;
    }
}
