import java.io.IOException;
import java.lang.reflect.Method;
import java.lang.reflect.Modifier;
import java.nio.file.Files;
import java.nio.file.Path;
import java.util.List;
import java.util.regex.Matcher;
import java.util.regex.Pattern;
import java.util.stream.Collectors;
import java.util.stream.Stream;

/** What README.md shows: the example's calls answer what stands beside them, and nothing is left out. */
public final class ReadmeTest {
    private static final Pattern CALL = Pattern.compile("x\\.(\\w+)\\(([^)]*)\\);\\s+// (-?\\d+):.*");

    private static final Due DUE = new Due();

    public static void main(String[] args) throws Exception {
        String page = Files.readString(Path.of("README.md"));
        followExample(page);
        lookForCalls(page);
        lookForTests(page);
        DUE.holds("it says how to run the tests", page.contains("bash .ci/run"));
        DUE.end();
    }

    private static void followExample(String page) throws ReflectiveOperationException {
        Matcher block = Pattern.compile("(?s)```java\n(.*?)```").matcher(page);
        DUE.holds("there is an example", block.find());
        String[] lines = block.group(1).split("\n");
        DUE.holds("it begins with a new object", lines[0].equals("TraceTrees x = new TraceTrees();"));
        TraceTrees x = new TraceTrees();
        for (int i = 1; i < lines.length; i++) {
            Matcher call = CALL.matcher(lines[i]);
            boolean isCall = call.matches();
            DUE.holds("a call with its answer: " + lines[i], isCall);
            if (isCall) {
                DUE.is(lines[i], answer(x, call.group(1), call.group(2)), Long.parseLong(call.group(3)));
            }
        }
    }

    private static long answer(TraceTrees x, String name, String listed) throws ReflectiveOperationException {
        Object[] numbers = Stream.of(listed.split(", *")).filter(it -> !it.isEmpty()).map(Integer::valueOf).toArray();
        Class<?>[] types = Stream.of(numbers).map(it -> int.class).toArray(Class<?>[]::new);
        return ((Number) TraceTrees.class.getMethod(name, types).invoke(x, numbers)).longValue();
    }

    private static void lookForCalls(String page) {
        for (Method m : TraceTrees.class.getDeclaredMethods()) {
            if (Modifier.isPublic(m.getModifiers())) {
                DUE.holds("README.md names " + m.getName(), page.contains("`" + m.getName() + "`"));
            }
        }
    }

    private static void lookForTests(String page) throws IOException {
        try (Stream<Path> files = Files.list(Path.of("src/test/java"))) {
            List<String> tests = files.map(it -> it.getFileName().toString())
                    .filter(it -> it.endsWith("Test.java")).collect(Collectors.toList());
            for (String test : tests) {
                String name = test.substring(0, test.length() - ".java".length());
                DUE.holds("README.md names " + name, page.contains("| " + name + " |"));
            }
        }
    }
}
