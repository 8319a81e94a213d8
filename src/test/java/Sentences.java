import java.lang.reflect.Method;
import java.util.ArrayList;
import java.util.Comparator;
import java.util.List;

/** The tests of a class that name the words of the document that they stand for. */
final class Sentences {
    private Sentences() {
    }

    static List<Method> testsOf(Class<?> test) {
        List<Method> tests = new ArrayList<>();
        for (Method method : test.getDeclaredMethods()) {
            if (method.isAnnotationPresent(Says.class)) {
                tests.add(method);
            }
        }
        tests.sort(Comparator.comparing(Method::getName));
        return tests;
    }

    static void runAll(Class<?> test) throws ReflectiveOperationException {
        for (Method method : testsOf(test)) {
            method.invoke(null);
        }
        Checks.finish();
    }
}
