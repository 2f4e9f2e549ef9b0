import java.lang.reflect.InvocationTargetException;
import java.lang.reflect.Method;
import java.util.Arrays;
import java.util.Comparator;

/** Runs the tests of a class that holds one for each sentence: its static methods that take a Due alone. */
final class Sentences {
    private Sentences() {
    }

    static void run(Class<?> test) throws IllegalAccessException {
        Due due = new Due(test.getName());
        Method[] methods = test.getDeclaredMethods();
        Arrays.sort(methods, Comparator.comparing(Method::getName));
        int tests = 0;
        for (Method m : methods) {
            if (Arrays.equals(m.getParameterTypes(), new Class<?>[] {Due.class})) {
                tests++;
                run(m, due);
            }
        }
        System.out.println(test.getName() + ": " + tests + " sentences");
        due.end();
    }

    private static void run(Method m, Due due) throws IllegalAccessException {
        int asked = due.asked();
        int wrong = due.wrong();
        try {
            m.setAccessible(true);
            m.invoke(null, due);
        } catch (InvocationTargetException e) {
            e.getCause().printStackTrace(System.out);
            due.holds(m.getName() + " ends by itself", false);
        }
        if (due.asked() == asked) {
            due.holds(m.getName() + " asks something", false);
        }
        if (due.wrong() != wrong) {
            System.out.println("  so " + m.getName() + " does not hold");
        }
    }
}
