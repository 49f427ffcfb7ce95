import java.io.IOException;
import java.lang.reflect.Method;
import java.nio.file.Files;
import java.nio.file.Path;
import java.util.Arrays;
import java.util.List;
import java.util.regex.Matcher;
import java.util.regex.Pattern;

/** README.md says how to use the class: its example is asked, and it names every call and every test. */
public final class ReadmeTest {
    private static final Path README = Path.of("README.md");
    private static final Path DOCUMENT = Path.of("../shared/DOC.md");
    private static final Path TESTS = Path.of("src/test/java");

    private static final Due D = new Due();

    private ReadmeTest() {
    }

    public static void main(String[] args) throws IOException, ReflectiveOperationException {
        String readme = Files.readString(README);
        example(readme);
        everyCall(readme);
        everyTest(readme);
        D.end("ReadmeTest");
    }

    private static void example(String readme) throws ReflectiveOperationException {
        Percolated x = new Percolated();
        Matcher call = Pattern.compile("(?m)^x\\.(\\w+)\\((.*)\\); +// (-?\\d+)(:|$)").matcher(readme);
        int asked = 0;
        while (call.find()) {
            D.due("README: " + call.group(), answer(x, call.group(1), call.group(2)), Long.parseLong(call.group(3)));
            asked++;
        }
        D.due("README: calls of the example that can be asked", asked, readme.split("\nx\\.").length - 1);
    }

    private static long answer(Percolated x, String name, String told) throws ReflectiveOperationException {
        Object[] numbers = told.isEmpty() ? new Object[0]
            : Arrays.stream(told.split(", ")).map(ReadmeTest::number).toArray();
        for (Method method : Percolated.class.getMethods()) {
            if (method.getName().equals(name)) {
                return ((Number) method.invoke(x, numbers)).longValue();
            }
        }
        throw new IllegalStateException("README asks what there is not: " + name);
    }

    private static Object number(String told) {
        return told.startsWith("'") ? Integer.valueOf(told.charAt(1)) : Integer.valueOf(told);
    }

    private static void everyCall(String readme) throws IOException {
        Matcher face = Pattern.compile("(?m)^    public (?:int|long) (\\w+\\(.*\\));$").matcher(Files.readString(DOCUMENT));
        int calls = 0;
        while (face.find()) {
            String call = face.group(1).replace("int ", "");
            D.due("README: `" + call + "` is told", readme.contains("`" + call + "`") ? 1 : 0, 1);
            calls++;
        }
        D.due("README: calls of the document", calls, 39);
    }

    private static void everyTest(String readme) throws IOException {
        List<String> names;
        try (var files = Files.list(TESTS)) {
            names = files.map(f -> f.getFileName().toString().replace(".java", "")).toList();
        }
        for (String name : names) {
            boolean told = !name.endsWith("Test") || readme.contains("`" + name + "`");
            D.due("README: the test " + name + " is told", told ? 1 : 0, 1);
        }
    }
}
