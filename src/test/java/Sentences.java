import java.lang.reflect.InvocationTargetException;
import java.lang.reflect.Method;
import java.util.ArrayList;
import java.util.Comparator;
import java.util.List;

/** Runs the tests of a class, each of one sentence of the document, and says which of them found something wrong. */
final class Sentences {
    private Sentences() {
    }

    static List<Method> of(Class<?> tests) {
        List<Method> found = new ArrayList<>();
        for (Method method : tests.getDeclaredMethods()) {
            if (method.isAnnotationPresent(Says.class)) {
                found.add(method);
            }
        }
        found.sort(Comparator.comparing(Method::getName));
        return found;
    }

    static void run(Class<?> tests) {
        int broken = 0;
        List<Method> all = of(tests);
        for (Method test : all) {
            if (!holds(test)) {
                broken++;
                System.out.println("BROKEN " + test.getName() + ": \"" + test.getAnnotation(Says.class).value() + "\"");
            }
        }
        System.out.println(tests.getName() + ": " + all.size() + " sentences, " + broken + " broken");
        Check.end(tests.getName());
    }

    private static boolean holds(Method test) {
        int before = Check.wrongSoFar();
        int looked = Check.lookedSoFar();
        try {
            test.setAccessible(true);
            test.invoke(null);
        } catch (InvocationTargetException e) {
            Check.due(test.getName() + " threw " + e.getCause(), false, true);
        } catch (IllegalAccessException e) {
            Check.due(test.getName() + " can't be run", false, true);
        }
        Check.due(test.getName() + " looks at something", Check.lookedSoFar() > looked, true);
        return Check.wrongSoFar() == before;
    }
}
