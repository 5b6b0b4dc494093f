import java.lang.reflect.Method;
import java.util.Arrays;
import java.util.HashMap;
import java.util.Map;

/** Calls by name, so that they can stand in tables; no two methods of the face share a name. */
final class Calls {
    private static final Map<String, Method> METHODS = new HashMap<>();

    static {
        for (Method m : ValveRiver.class.getMethods()) {
            if (m.getDeclaringClass() == ValveRiver.class) {
                METHODS.put(m.getName(), m);
            }
        }
    }

    private Calls() {
    }

    static long ask(ValveRiver x, String name, int... numbers) {
        Object[] args = Arrays.stream(numbers).boxed().toArray();
        try {
            return ((Number) METHODS.get(name).invoke(x, args)).longValue();
        } catch (ReflectiveOperationException e) {
            throw new AssertionError(told(name, numbers) + " can't be asked", e);
        }
    }

    static String told(String name, int... numbers) {
        String list = Arrays.toString(numbers);
        return name + "(" + list.substring(1, list.length() - 1) + ")";
    }
}
