import java.lang.reflect.InvocationTargetException;
import java.lang.reflect.Method;
import java.util.Arrays;
import java.util.Comparator;

/** Runs the tests of a class that are marked with the sentence of the document that they are for. */
abstract class Sentences extends Twins {
    static void holdAll(Class<? extends Sentences> tests) throws IllegalAccessException {
        Method[] methods = tests.getDeclaredMethods();
        Arrays.sort(methods, Comparator.comparing(Method::getName));
        int count = 0;
        for (Method method : methods) {
            Says says = method.getAnnotation(Says.class);
            if (says != null) {
                testing(says.value());
                hold(method);
                count++;
            }
        }
        conclude(count + " sentences hold");
    }

    private static void hold(Method method) throws IllegalAccessException {
        method.setAccessible(true);
        try {
            method.invoke(null);
        } catch (InvocationTargetException thrown) {
            due(method.getName() + " threw " + thrown.getCause() + " and", false, true);
        }
    }
}
