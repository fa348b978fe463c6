import java.lang.reflect.InvocationTargetException;
import java.lang.reflect.Method;
import java.util.Arrays;
import java.util.stream.Collectors;

/** Makes calls by name, so that a store and its model can be asked the same and answers compared. */
final class Calls {
    private Calls() {
    }

    /** The answer as a text: the number, true or false, done (void), or throws.X. */
    static String answer(Object target, String name, int... args) {
        try {
            Object[] boxed = Arrays.stream(args).boxed().toArray();
            Object answer = method(target, name, args.length).invoke(target, boxed);
            return answer == null ? "done" : answer.toString();
        } catch (InvocationTargetException e) {
            return "throws." + e.getCause().getClass().getSimpleName();
        } catch (IllegalAccessException e) {
            throw new AssertionError(e);
        }
    }

    static String text(String name, int... args) {
        return Arrays.stream(args).mapToObj(Integer::toString)
                .collect(Collectors.joining(", ", name + "(", ")"));
    }

    private static Method method(Object target, String name, int count) {
        Class<?>[] types = new Class<?>[count];
        Arrays.fill(types, int.class);
        try {
            Method method = target.getClass().getDeclaredMethod(name, types);
            method.setAccessible(true);
            return method;
        } catch (NoSuchMethodException e) {
            throw new AssertionError(e);
        }
    }
}
