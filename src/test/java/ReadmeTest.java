import java.io.IOException;
import java.lang.reflect.Method;
import java.lang.reflect.Modifier;
import java.nio.file.Files;
import java.nio.file.Path;
import java.util.List;
import java.util.regex.Matcher;
import java.util.regex.Pattern;
import java.util.stream.Stream;
import javax.tools.ToolProvider;

/** README.md: its example answers what it says, and it names each call of the class and each test. */
public final class ReadmeTest {
    private static final Path README = Path.of("README.md");
    private static final Path TESTS = Path.of("src/test/java");
    private static final Pattern ANSWERED = Pattern.compile("(?:int (\\w+) = )?(.+); +// (-?\\d+): .+");
    private static final Pattern MAKES = Pattern.compile("\\w+ \\w+ = new \\w+\\(\\);");

    private ReadmeTest() {
    }

    public static void main(String[] args) throws Exception {
        String readme = Files.readString(README);
        namesAllCalls(readme);
        namesAllTests(readme);
        String example = readme.substring(readme.indexOf("```java\n") + 8);
        run(program(example.substring(0, example.indexOf("```"))));
        Check.end("ReadmeTest");
    }

    private static void namesAllCalls(String readme) {
        for (Method method : SpokenTree.class.getDeclaredMethods()) {
            if (Modifier.isPublic(method.getModifiers())) {
                Check.yes("README.md names " + method.getName(), readme.contains("`" + method.getName() + "`"));
            }
        }
    }

    private static void namesAllTests(String readme) throws IOException {
        try (Stream<Path> files = Files.list(TESTS)) {
            List<String> names = files.map(file -> file.getFileName().toString().replace(".java", ""))
                    .filter(name -> name.endsWith("Test")).toList();
            Check.yes("there are tests", names.size() > 1);
            for (String name : names) {
                Check.yes("README.md names " + name, readme.contains("- `" + name + "`"));
            }
        }
    }

    // Each line of the example, and behind it a look at what it says it answers.
    private static String program(String example) {
        StringBuilder all = new StringBuilder("final class ReadmeExample {\n    static void run() {\n");
        for (String line : example.split("\n")) {
            Matcher answered = ANSWERED.matcher(line);
            if (answered.matches()) {
                String call = answered.group(2);
                String kept = answered.group(1) == null ? "answer" + all.length() : answered.group(1);
                all.append("        int ").append(kept).append(" = ").append(call).append(";\n");
                all.append("        Check.same(\"README.md: ").append(call.replace("\"", "'")).append("\", ").append(kept)
                        .append(", ").append(answered.group(3)).append(");\n");
            } else {
                Check.yes("README.md tells what this answers: " + line, line.isEmpty() || MAKES.matcher(line).matches());
                all.append("        ").append(line).append('\n');
            }
        }
        return all.append("    }\n}\n").toString();
    }

    // It is compiled to where this class stands: only there can it share Check with this test.
    private static void run(String program) throws Exception {
        String here = System.getProperty("java.class.path");
        Path file = Path.of(here, "ReadmeExample.java");
        Files.writeString(file, program);
        int failed = ToolProvider.getSystemJavaCompiler().run(null, null, null, "-cp", here, "-d", here, file.toString());
        Check.same("README.md: the example compiles", failed, 0);
        if (failed == 0) {
            Method example = Class.forName("ReadmeExample").getDeclaredMethod("run");
            example.setAccessible(true);
            example.invoke(null);
        }
    }
}
