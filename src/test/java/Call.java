import java.lang.reflect.InvocationTargetException;
import java.lang.reflect.Method;
import java.util.Arrays;
import java.util.HashMap;
import java.util.Map;
import java.util.stream.Collectors;

/** A call by its name, so that it can be made again and a model can be asked the same. */
record Call(String name, int... args) {
    private static final Map<String, Method> METHODS = new HashMap<>();

    /** The answer as a text: the number, true or false, done (void), or throws.X. */
    String on(Object target) {
        try {
            Object answer = method(target.getClass()).invoke(target, Arrays.stream(args).boxed().toArray());
            return answer == null ? "done" : answer.toString();
        } catch (InvocationTargetException e) {
            return "throws." + e.getCause().getClass().getSimpleName();
        } catch (IllegalAccessException e) {
            throw new AssertionError(e);
        }
    }

    String text() {
        return Arrays.stream(args).mapToObj(Integer::toString).collect(Collectors.joining(", ", name + "(", ")"));
    }

    private Method method(Class<?> type) {
        return METHODS.computeIfAbsent(type.getName() + "." + name, any -> find(type));
    }

    private Method find(Class<?> type) {
        Class<?>[] types = new Class<?>[args.length];
        Arrays.fill(types, int.class);
        try {
            Method method = type.getDeclaredMethod(name, types);
            method.setAccessible(true);
            return method;
        } catch (NoSuchMethodException e) {
            throw new AssertionError(e);
        }
    }
}
