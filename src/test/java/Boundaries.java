import java.lang.reflect.InvocationTargetException;
import java.lang.reflect.Method;
import java.util.ArrayList;
import java.util.Comparator;
import java.util.List;

/** Tests of which each is one method, for one sentence of the document that names a boundary case. */
abstract class Boundaries extends Answers {
    /** By promises and names, so that what is printed is the same each time. */
    static List<Method> testsOf(Class<?> tests) {
        List<Method> found = new ArrayList<>();
        for (Method method : tests.getDeclaredMethods()) {
            if (method.isAnnotationPresent(Sentence.class)) {
                found.add(method);
            }
        }
        found.sort(Comparator.comparing((Method m) -> m.getAnnotation(Sentence.class).promise())
            .thenComparing(Method::getName));
        return found;
    }

    static void runAll(Class<?> tests) throws IllegalAccessException {
        List<Method> found = testsOf(tests);
        for (Method method : found) {
            Sentence sentence = method.getAnnotation(Sentence.class);
            about("promise " + sentence.promise() + ", " + method.getName() + " (\"" + sentence.says() + "\")");
            try {
                method.invoke(null);
            } catch (InvocationTargetException thrown) {
                due("a call that threw " + thrown.getCause(), 1, 0);
            }
        }
        due("no test at all", found.isEmpty() ? 1 : 0, 0);
        System.out.println(found.size() + " sentences");
        end();
    }
}
