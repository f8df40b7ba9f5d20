import java.lang.reflect.InvocationTargetException;
import java.lang.reflect.Method;
import java.util.ArrayList;
import java.util.Comparator;
import java.util.List;

/** Runs the tests of a class that stand for one sentence of the document each: all methods named p01_.. to p48_.. */
final class Sentences {
    private static final String NAMED_AFTER_PROMISE = "p\\d\\d_\\w+";

    private Sentences() {
    }

    static List<Method> testsOf(Class<?> tests) {
        List<Method> found = new ArrayList<>();
        for (Method method : tests.getDeclaredMethods()) {
            if (method.getName().matches(NAMED_AFTER_PROMISE)) {
                found.add(method);
            }
        }
        found.sort(Comparator.comparing(Method::getName));
        return found;
    }

    static void runAllOf(Class<?> tests) throws IllegalAccessException {
        List<Method> found = testsOf(tests);
        for (Method test : found) {
            Checks.begin(test.getName());
            int before = Checks.soFar();
            try {
                test.setAccessible(true);
                test.invoke(null);
            } catch (InvocationTargetException e) {
                Checks.same("the test itself", "throws " + e.getCause(), "ends");
            }
            Checks.same("the test checks something", Checks.soFar() > before, true);
        }
        Checks.end(tests.getName() + ", " + found.size() + " tests");
    }
}
