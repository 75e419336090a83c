import java.lang.reflect.InvocationTargetException;
import java.lang.reflect.Method;
import java.util.Arrays;
import java.util.Comparator;

/**
 * Runs the tests of single sentences of the document: all methods of a class that are named after a promise. They are
 * found by their names, so that none can be written and not be run; one that fails lets the others run.
 */
final class Sentences {
    private Sentences() {
    }

    static void run(Class<?> tests) {
        int passed = 0;
        int failed = 0;
        for (Method test : namedAfterPromises(tests)) {
            if (passes(test)) {
                passed++;
            } else {
                failed++;
                System.out.println("failed: " + test.getName());
            }
        }
        System.out.println(tests.getName() + ": " + passed + " sentences hold, " + failed + " do not");
        if (passed == 0 || failed > 0) {
            System.exit(1);
        }
    }

    private static Method[] namedAfterPromises(Class<?> tests) {
        return Arrays.stream(tests.getDeclaredMethods())
                .filter(method -> method.getName().startsWith("promise"))
                .sorted(Comparator.comparing(Method::getName))
                .toArray(Method[]::new);
    }

    private static boolean passes(Method test) {
        Check check = new Check();
        try {
            test.invoke(null, check);
        } catch (InvocationTargetException thrown) {
            System.out.println(test.getName() + " threw " + thrown.getCause());
            return false;
        } catch (IllegalAccessException wrongTest) {
            System.out.println(test.getName() + " cannot be called: " + wrongTest);
            return false;
        }
        return check.passed();
    }
}
