import java.io.IOException;
import java.lang.reflect.InvocationTargetException;
import java.lang.reflect.Method;
import java.util.ArrayList;
import java.util.Comparator;
import java.util.List;

/** The boundary cases, sentence by sentence: each test names its promise and the words that it looks after. */
public final class BoundaryTest {
    private static final List<Class<?>> TESTS = List.of(NodesBoundaries.class, WordsBoundaries.class,
            FocusBoundaries.class, QueueBoundaries.class, TableBoundaries.class, RecordBoundaries.class);

    private BoundaryTest() {
    }

    public static void main(String[] args) throws IOException {
        Sentences sentences = new Sentences();
        List<Method> tests = new ArrayList<>();
        for (Class<?> group : TESTS) {
            for (Method method : group.getDeclaredMethods()) {
                if (method.isAnnotationPresent(Says.class)) {
                    tests.add(method);
                }
            }
        }
        tests.sort(Comparator.comparing((Method test) -> test.getAnnotation(Says.class).promise())
                .thenComparing(Method::getName));
        for (Method test : tests) {
            run(test, sentences);
        }
        Check.about("");
        for (String sentence : sentences.untold()) {
            Check.same("a sentence without a test", sentence, "");
        }
        System.out.println(tests.size() + " tests for " + sentences.count() + " sentences ran");
        Check.end("BoundaryTest");
    }

    private static void run(Method test, Sentences sentences) {
        Says says = test.getAnnotation(Says.class);
        Check.about("promise " + says.promise() + ", " + test.getName() + ": ");
        int before = Check.wrong();
        Check.yes("the document has the words \"" + says.value() + "\"", sentences.has(says.promise(), says.value()));
        try {
            test.setAccessible(true);
            test.invoke(null);
        } catch (InvocationTargetException e) {
            Check.same("the test ends with", String.valueOf(e.getCause()), "no exception");
        } catch (IllegalAccessException e) {
            Check.same("the test ends with", String.valueOf(e), "no exception");
        }
        System.out.println((Check.wrong() == before ? "  held   " : "  FAILED ") + says.promise() + " "
                + test.getName() + ": " + says.value());
    }
}
