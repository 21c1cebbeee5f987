import java.io.IOException;
import java.lang.reflect.InvocationTargetException;
import java.lang.reflect.Method;
import java.nio.file.Files;
import java.nio.file.Path;
import java.util.Arrays;
import java.util.TreeSet;
import java.util.regex.Matcher;
import java.util.regex.Pattern;
import java.util.stream.Stream;

/**
 * What README.md tells is so: its example is run line by line, each answer held against the number
 * at the head of the line's comment; and it names every call, every constant and every test.
 */
public final class ReadmeTest {
    private static final Path README = Path.of("README.md");
    private static final Path TESTS = Path.of("src/test/java");
    private static final Pattern CALL = Pattern.compile("x\\.(\\w+)\\(([-0-9, ]*)\\);\\s*(?://\\s*(-?\\d+)\\b)?.*");
    private static final Pattern TEST_NAME = Pattern.compile("`(\\w+Test)`");
    private static final Checks CHECKS = new Checks();

    public static void main(String[] args) throws IOException, ReflectiveOperationException {
        String text = Files.readString(README);
        runExample(text);
        namesTheFace(text);
        namesEveryTest(text);
        CHECKS.due("README.md says how to run the tests", text.contains("\n    .ci/run\n"), true);
        CHECKS.due(".ci/run is there to be run", Files.isExecutable(Path.of(".ci/run")), true);
        CHECKS.end();
    }

    private static void runExample(String text) throws ReflectiveOperationException {
        int begin = text.indexOf("```java\n");
        int end = text.indexOf("\n```\n", begin);
        CHECKS.due("README.md has an example", begin >= 0 && end > begin, true);
        if (begin < 0 || end < begin) {
            return;
        }
        MappingChase x = new MappingChase();
        int held = 0;
        for (String line : text.substring(begin + 8, end).split("\n")) {
            Matcher call = CALL.matcher(line);
            if (call.matches()) {
                Object answer = call(x, call.group(1), call.group(2));
                if (call.group(3) != null) {
                    CHECKS.due(line, number(answer), Long.parseLong(call.group(3)));
                    held++;
                }
            } else {
                boolean other = line.isBlank() || line.equals("MappingChase x = new MappingChase();");
                CHECKS.due("the example's line '" + line + "' can be run", other, true);
            }
        }
        CHECKS.due("the example tells answers", held >= 10, true);
    }

    private static Object call(MappingChase x, String name, String words)
            throws ReflectiveOperationException, InvocationTargetException {
        String[] parts = words.isBlank() ? new String[0] : words.trim().split("\\s*,\\s*");
        Object[] arguments = Arrays.stream(parts).map(Integer::valueOf).toArray();
        Class<?>[] types = new Class<?>[arguments.length];
        Arrays.fill(types, int.class);
        Method method = MappingChase.class.getMethod(name, types);
        return method.invoke(x, arguments);
    }

    private static long number(Object answer) {
        if (answer instanceof Boolean flag) {
            return flag ? 1 : 0;
        }
        return answer instanceof Integer number ? number : Long.MIN_VALUE;
    }

    private static void namesTheFace(String text) {
        for (Method method : MappingChase.class.getDeclaredMethods()) {
            if (java.lang.reflect.Modifier.isPublic(method.getModifiers())) {
                boolean named = text.contains("`" + method.getName() + "(");
                CHECKS.due("README.md tells of " + method.getName(), named, true);
            }
        }
        for (String constant : new String[] {"NONE", "EMPTY", "MIXED", "HEAD", "LOOSE", "MANY", "CYCLIC"}) {
            CHECKS.due("README.md tells of " + constant, text.contains("`" + constant + "`"), true);
        }
    }

    private static void namesEveryTest(String text) throws IOException {
        TreeSet<String> named = new TreeSet<>();
        Matcher name = TEST_NAME.matcher(text);
        while (name.find()) {
            named.add(name.group(1));
        }
        TreeSet<String> there = new TreeSet<>();
        try (Stream<Path> files = Files.walk(TESTS)) {
            files.map(file -> file.getFileName().toString())
                    .filter(file -> file.endsWith("Test.java"))
                    .forEach(file -> there.add(file.substring(0, file.length() - 5)));
        }
        CHECKS.due("tests that README.md names", named.toString(), there.toString());
    }
}
