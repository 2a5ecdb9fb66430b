import java.io.IOException;
import java.lang.reflect.InvocationTargetException;
import java.lang.reflect.Method;
import java.nio.file.Files;
import java.nio.file.Path;
import java.util.Arrays;
import java.util.Comparator;

/** Runs the tests of a class that are marked with the sentence of the document that they are for. */
abstract class Sentences extends Twins {
    private static final Path DOCUMENT = Path.of("../shared/DOC.md");

    static void holdAll(Class<? extends Sentences> tests) throws IllegalAccessException, IOException {
        String document = Files.readString(DOCUMENT);
        Method[] methods = tests.getDeclaredMethods();
        Arrays.sort(methods, Comparator.comparing(Method::getName));
        int count = 0;
        for (Method method : methods) {
            Says says = method.getAnnotation(Says.class);
            if (says != null) {
                testing(says.value());
                due("said by the document, which", isSaid(says.value(), document), true);
                hold(method);
                count++;
            }
        }
        conclude(count + " sentences hold");
    }

    /** Whether the document has these words in this section; where it breaks its lines is no matter. */
    private static boolean isSaid(String sectionAndWords, String document) {
        String[] parts = sectionAndWords.split(": ", 2);
        for (String section : document.split("(?m)^## ")) {
            boolean named = section.startsWith(parts[0] + ":") || section.startsWith(parts[0] + "\n");
            if (named && section.replaceAll("\\s+", " ").contains(parts[1])) {
                return true;
            }
        }
        return false;
    }

    private static void hold(Method method) throws IllegalAccessException {
        method.setAccessible(true);
        try {
            method.invoke(null);
        } catch (InvocationTargetException thrown) {
            due(method.getName() + " threw " + thrown.getCause() + " and", false, true);
        }
    }
}
