import java.lang.reflect.InvocationTargetException;
import java.lang.reflect.Method;
import java.util.ArrayList;
import java.util.Comparator;
import java.util.List;

/**
 * Runs the tests of a class: every function that bears Says is a test of its own, and its name
 * tells the promise and the case.
 */
final class Tests {
    private Tests() {
    }

    static void runAll(Class<?> tests) {
        List<Method> found = testsOf(tests);
        for (Method test : found) {
            run(test);
        }
        System.out.println(found.size() + " tests");
        Check.finish();
    }

    static List<Method> testsOf(Class<?> tests) {
        List<Method> found = new ArrayList<>();
        for (Method method : tests.getDeclaredMethods()) {
            if (method.isAnnotationPresent(Says.class)) {
                found.add(method);
            }
        }
        found.sort(Comparator.comparing(Method::getName));
        return found;
    }

    private static void run(Method test) {
        int before = Check.made();
        Check.begin(test.getName());
        try {
            test.setAccessible(true);
            test.invoke(null);
        } catch (InvocationTargetException e) {
            Check.due("the test throws " + e.getCause(), false);
        } catch (ReflectiveOperationException e) {
            Check.due("the test can't be run: " + e, false);
        }
        Check.due("something was looked at", Check.made() > before);
    }
}
