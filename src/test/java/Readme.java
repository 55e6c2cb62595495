import java.io.IOException;
import java.lang.reflect.Method;
import java.lang.reflect.Modifier;
import java.nio.file.Files;
import java.nio.file.Path;
import java.util.List;
import java.util.regex.Matcher;
import java.util.regex.Pattern;
import java.util.stream.Stream;

/** What README.md says of an answer is what the class answers; it names every call and every test. */
public final class Readme {
    private static final Pattern BLOCK = Pattern.compile("(?s)```java\n(.*?)```");
    private static final Pattern CALL = Pattern.compile("x\\.(\\w+)\\(([^)]*)\\); +// (-?\\d+)(: .+)?");
    private static final String NEW_OBJECT = "PlaceMender x = new PlaceMender();";
    private static final int FEWEST_CALLS = 12;

    private final Check check = new Check();
    private PlaceMender x;
    private int calls = 0;

    public static void main(String[] args) throws IOException, ReflectiveOperationException {
        Path root = Path.of(args.length > 0 ? args[0] : ".");
        String page = Files.readString(root.resolve("README.md"));
        Readme readme = new Readme();
        readme.checkRuns(page);
        readme.checkCallsNamed(page);
        readme.checkTestsNamed(page, root.resolve("src/test/java"));
        readme.check.end();
    }

    private void checkRuns(String page) throws ReflectiveOperationException {
        Matcher block = BLOCK.matcher(page);
        while (block.find()) {
            for (String line : block.group(1).lines().toList()) {
                checkLine(line);
            }
        }
        check.holds("a run of calls stands there: " + calls, calls >= FEWEST_CALLS);
    }

    private void checkLine(String line) throws ReflectiveOperationException {
        if (line.equals(NEW_OBJECT)) {
            x = new PlaceMender();
            return;
        }
        Matcher call = CALL.matcher(line);
        boolean told = x != null && call.matches();
        check.holds("a call of an object with its answer: " + line, told);
        if (told) {
            check.same(line, answer(call.group(1), numbers(call.group(2))), Long.parseLong(call.group(3)));
            calls++;
        }
    }

    private static Object[] numbers(String told) {
        return told.isEmpty() ? new Object[0] : Stream.of(told.split(", ")).map(Integer::decode).toArray();
    }

    private long answer(String name, Object[] numbers) throws ReflectiveOperationException {
        Class<?>[] types = new Class<?>[numbers.length];
        java.util.Arrays.fill(types, int.class);
        return ((Number) PlaceMender.class.getMethod(name, types).invoke(x, numbers)).longValue();
    }

    private void checkCallsNamed(String page) {
        for (Method method : PlaceMender.class.getDeclaredMethods()) {
            if (Modifier.isPublic(method.getModifiers())) {
                check.holds("names the call " + method.getName(), page.contains("`" + method.getName() + "`"));
            }
        }
    }

    private void checkTestsNamed(String page, Path tests) throws IOException {
        check.holds("says how to run the tests", page.contains("\n    .ci/run\n"));
        List<Path> files;
        try (Stream<Path> listed = Files.list(tests)) {
            files = listed.toList();
        }
        for (Path file : files) {
            if (Files.readString(file).contains("public static void main")) {
                String name = file.getFileName().toString().replace(".java", "");
                check.holds("names the test " + name, page.contains("\n- `" + name + "`: "));
            }
        }
        Matcher told = Pattern.compile("\n- `(\\w+)`: ").matcher(page);
        while (told.find()) {
            check.holds("there is a test " + told.group(1), files.contains(tests.resolve(told.group(1) + ".java")));
        }
    }
}
