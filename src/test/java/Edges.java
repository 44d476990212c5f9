import java.io.IOException;
import java.lang.reflect.InvocationTargetException;
import java.lang.reflect.Method;
import java.nio.file.Files;
import java.nio.file.Path;
import java.util.Arrays;
import java.util.Comparator;

/** Runs the tests of single sentences. */
final class Edges {
    private static final Path DOCUMENT = Path.of("../shared/DOC.md");

    private Edges() {
    }

    /** Each sentence must stand in the document: one that was changed there needs its test looked at again. */
    static void run(Class<?> tests) throws IOException, IllegalAccessException {
        String document = Files.readString(DOCUMENT);
        Method[] methods = tests.getDeclaredMethods();
        Arrays.sort(methods, Comparator.comparing(Method::getName));
        int found = 0;
        for (Method method : methods) {
            Says says = method.getAnnotation(Says.class);
            if (says != null) {
                found++;
                TestKit.begin(tests.getSimpleName() + "." + method.getName());
                for (String sentence : says.value()) {
                    TestKit.due("how often the document says: " + sentence, document.contains(sentence) ? 1 : 0, 1);
                }
                call(method);
            }
        }
        TestKit.begin(tests.getSimpleName());
        TestKit.due("tests of sentences were found", found > 0 ? 1 : 0, 1);
    }

    private static void call(Method method) throws IllegalAccessException {
        try {
            method.invoke(null);
        } catch (InvocationTargetException thrown) {
            TestKit.tellWrong("threw " + thrown.getCause());
        }
    }
}
