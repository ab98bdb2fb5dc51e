import java.lang.reflect.InvocationTargetException;
import java.lang.reflect.Method;
import java.util.Arrays;
import java.util.Comparator;

/**
 * Runs the tests of boundaries: each method "promise07_aDayAbove7(Due)" holds one sentence of the document, and
 * its name tells of which promise.
 */
final class Boundaries {
    private Boundaries() {
    }

    /** Runs every test of the class, which must have some for each promise from the first to the last. */
    static void runAll(Class<?> tests, int first, int last) {
        Due due = new Due();
        int[] found = new int[last + 1];
        Method[] methods = tests.getDeclaredMethods();
        Arrays.sort(methods, Comparator.comparing(Method::getName));
        int ran = 0;
        for (Method method : methods) {
            if (method.getName().matches("promise\\d\\d_\\w+")) {
                int promise = Integer.parseInt(method.getName().substring(7, 9));
                due.is(method.getName() + " is in the right class", promise >= first && promise <= last, true);
                found[Math.min(promise, last)]++;
                run(method, due);
                ran++;
            }
        }
        due.under(tests.getSimpleName());
        for (int promise = first; promise <= last; promise++) {
            due.is("tests of promise " + promise + " are there", found[promise] > 0, true);
        }
        System.out.println(ran + " sentences");
        due.end();
    }

    private static void run(Method method, Due due) {
        due.under(method.getName());
        int before = due.asked();
        try {
            method.invoke(null, due);
        } catch (InvocationTargetException thrown) {
            due.is("it ended with " + thrown.getCause(), false, true);
        } catch (IllegalAccessException thrown) {
            due.is("it can't be called: " + thrown, false, true);
        }
        due.is("it asks something", due.asked() > before, true);
    }
}
