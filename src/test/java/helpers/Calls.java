import java.lang.reflect.InvocationTargetException;
import java.lang.reflect.Method;
import java.util.Arrays;
import java.util.HashMap;
import java.util.Map;

/** Makes calls by their names, on a ship or on the plain one, so that tables can tell them; a boolean counts 1 or 0. */
final class Calls {
    private static final Map<String, Method> METHODS = new HashMap<>();

    private Calls() {
    }

    static int make(Object ship, String name, int... numbers) {
        Object[] boxed = Arrays.stream(numbers).boxed().toArray();
        try {
            Object answer = find(ship.getClass(), name).invoke(ship, boxed);
            if (answer instanceof Boolean) {
                return (Boolean) answer ? 1 : 0;
            }
            return (Integer) answer;
        } catch (IllegalAccessException | InvocationTargetException e) {
            throw new IllegalStateException(text(name, numbers), e);
        }
    }

    private static Method find(Class<?> type, String name) {
        return METHODS.computeIfAbsent(type.getName() + "." + name, key -> {
            for (Method method : type.getDeclaredMethods()) {
                if (method.getName().equals(name)) {
                    return method;
                }
            }
            throw new IllegalStateException("no " + key);
        });
    }

    static String text(String name, int... numbers) {
        String inside = Arrays.toString(numbers);
        return name + "(" + inside.substring(1, inside.length() - 1) + ")";
    }
}
