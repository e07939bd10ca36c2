import java.lang.reflect.InvocationTargetException;
import java.lang.reflect.Method;
import java.util.HashMap;
import java.util.Map;

/** Calls a method by its name. */
final class Caller {
    private static final Map<String, Method> METHODS = new HashMap<>();

    private Caller() {
    }

    static long call(Object object, String name, int... numbers) {
        Method method = METHODS.computeIfAbsent(object.getClass().getName() + "." + name, key -> find(object, name));
        Object[] arguments = new Object[numbers.length];
        for (int index = 0; index < numbers.length; index++) {
            arguments[index] = numbers[index];
        }
        try {
            return ((Number) method.invoke(object, arguments)).longValue();
        } catch (InvocationTargetException thrown) {
            if (thrown.getCause() instanceof RuntimeException) {
                throw (RuntimeException) thrown.getCause();
            }
            throw new AssertionError(thrown.getCause());
        } catch (IllegalAccessException hidden) {
            throw new AssertionError(hidden);
        }
    }

    private static Method find(Object object, String name) {
        for (Method method : object.getClass().getDeclaredMethods()) {
            if (method.getName().equals(name)
                    && java.lang.reflect.Modifier.isPublic(method.getModifiers())) {
                return method;
            }
        }
        throw new AssertionError("no method " + name);
    }
}
