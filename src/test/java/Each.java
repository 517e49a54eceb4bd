import java.lang.reflect.InvocationTargetException;
import java.lang.reflect.Method;
import java.util.Arrays;
import java.util.Comparator;

/**
 * Runs each boundary test of a class: every method whose name begins with "promise" and the
 * promise's number, so that none can be written and forgotten, and a wrong answer names it.
 */
final class Each {
    private Each() {
    }

    static void run(Class<?> tests) throws IllegalAccessException {
        Method[] methods = tests.getDeclaredMethods();
        Arrays.sort(methods, Comparator.comparing(Method::getName));
        for (Method method : methods) {
            if (method.getName().matches("promise[0-9][0-9].+")) {
                runOne(method);
            }
        }
        Due.part("");
        Due.close(tests.getName());
    }

    private static void runOne(Method method) throws IllegalAccessException {
        Due.part(method.getName() + ": ");
        method.setAccessible(true);
        int before = Due.askedSoFar();
        try {
            method.invoke(null);
        } catch (InvocationTargetException e) {
            e.getCause().printStackTrace(System.out);
            Due.due("it threw " + e.getCause(), true, false);
        }
        if (Due.askedSoFar() == before) {
            Due.due("it asks for something", false, true);
        }
    }
}
