import java.lang.reflect.InvocationTargetException;
import java.lang.reflect.Method;
import java.lang.reflect.Modifier;
import java.util.Arrays;
import java.util.Comparator;

/** Runs a class of tests, each of which is named after the promise or the paragraph whose sentence it is for. */
final class Sentences {
    private Sentences() {
    }

    static void runAll(Class<?> tests) throws IllegalAccessException {
        Method[] methods = tests.getDeclaredMethods();
        Arrays.sort(methods, Comparator.comparing(Method::getName));
        int count = 0;
        for (Method method : methods) {
            if (isTest(method)) {
                count++;
                run(method);
            }
        }
        Keys.begin(tests.getSimpleName());
        Keys.is("there are tests", count > 0, true);
        System.out.println(count + " tests");
        Keys.end();
    }

    private static boolean isTest(Method method) {
        String name = method.getName();
        return Modifier.isStatic(method.getModifiers()) && method.getParameterCount() == 0
            && (name.startsWith("promise") || name.startsWith("paragraph"));
    }

    private static void run(Method method) throws IllegalAccessException {
        Keys.begin(method.getName());
        method.setAccessible(true);
        try {
            method.invoke(null);
        } catch (InvocationTargetException thrown) {
            Keys.tell("threw " + thrown.getCause());
        }
    }
}
