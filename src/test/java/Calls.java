import java.lang.reflect.InvocationTargetException;
import java.lang.reflect.Method;
import java.util.Arrays;
import java.util.HashMap;
import java.util.Map;

/** Calls the methods of LitReach, or of a class with the same methods, by their names. */
final class Calls {
    private final Map<String, Method> methods = new HashMap<>();

    Calls(Class<?> type) {
        for (Method method : type.getDeclaredMethods()) {
            if (java.lang.reflect.Modifier.isPublic(method.getModifiers())) {
                method.setAccessible(true);
                methods.put(method.getName(), method);
            }
        }
    }

    int parameters(String name) {
        return method(name).getParameterCount();
    }

    int call(Object target, String name, int... arguments) {
        Object[] boxed = Arrays.stream(arguments).boxed().toArray();
        try {
            return (Integer) method(name).invoke(target, boxed);
        } catch (InvocationTargetException thrown) {
            throw new IllegalStateException(name + Arrays.toString(arguments) + " threw", thrown.getCause());
        } catch (IllegalAccessException hidden) {
            throw new IllegalStateException(hidden);
        }
    }

    private Method method(String name) {
        Method method = methods.get(name);
        if (method == null) {
            throw new IllegalArgumentException("no method " + name);
        }
        return method;
    }
}
