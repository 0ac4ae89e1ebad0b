import java.io.IOException;
import java.lang.reflect.Field;
import java.lang.reflect.Method;
import java.lang.reflect.Modifier;
import java.nio.file.Files;
import java.nio.file.Path;
import java.util.Arrays;
import java.util.List;
import java.util.regex.Matcher;
import java.util.regex.Pattern;

/** README.md: its example's answers are right, and it leaves out nothing public; run from the project's root. */
final class ReadmeTest {
    private static final Pattern MAKE = Pattern.compile(
        "DynamicShortPaths g = new DynamicShortPaths\\((.*?)\\); // .*");
    private static final Pattern CALL = Pattern.compile("g\\.(\\w+)\\((.*?)\\); +// ([-\\w]+)(: .*)?");

    private ReadmeTest() {
    }

    public static void main(String[] args) throws IOException, ReflectiveOperationException {
        String text = Files.readString(Path.of("README.md"));
        theExampleIsRight(text);
        everyCallIsTold(text);
        everyConstantIsTold(text);
        everyTestIsTold(text);
        Check.end();
    }

    private static void theExampleIsRight(String text) throws ReflectiveOperationException {
        Check.sentence("a short example whose answers are right");
        int start = text.indexOf("```java\n") + "```java\n".length();
        List<String> lines = text.substring(start, text.indexOf("```", start)).lines().toList();
        Matcher make = MAKE.matcher(lines.get(0));
        Check.same(lines.get(0) + " makes an object", make.matches(), true);
        int[] given = numbers(make.group(1));
        DynamicShortPaths g = new DynamicShortPaths(given[0], given[1], given[2]);
        for (String line : lines.subList(1, lines.size())) {
            Matcher call = CALL.matcher(line);
            Check.same(line + " is a call with its answer", call.matches(), true);
            String got = answer(g, call.group(1), numbers(call.group(2)));
            Check.same(line, got, value(call.group(3)));
        }
        Check.same("the example has calls", lines.size() > 1, true);
    }

    private static int[] numbers(String arguments) {
        return Arrays.stream(arguments.split(", ")).filter(a -> !a.isEmpty()).mapToInt(Integer::parseInt).toArray();
    }

    private static String answer(DynamicShortPaths g, String name, int[] arguments)
            throws ReflectiveOperationException {
        Class<?>[] types = new Class<?>[arguments.length];
        Arrays.fill(types, int.class);
        Object[] boxed = Arrays.stream(arguments).boxed().toArray();
        return DynamicShortPaths.class.getMethod(name, types).invoke(g, boxed).toString();
    }

    /** Answers stand in the example as a number, as true or false, or by the name of a constant. */
    private static String value(String answer) throws ReflectiveOperationException {
        boolean named = Character.isUpperCase(answer.charAt(0));
        return named ? DynamicShortPaths.class.getField(answer).get(null).toString() : answer;
    }

    private static void everyCallIsTold(String text) {
        Check.sentence("the calls that change the graph and what each of their answers means, the calls that ask");
        for (Method method : DynamicShortPaths.class.getDeclaredMethods()) {
            if (Modifier.isPublic(method.getModifiers())) {
                boolean told = text.contains("\n| `" + method.getName() + "(");
                Check.same(method.getName() + " has a row", told, true);
            }
        }
    }

    private static void everyConstantIsTold(String text) throws IllegalAccessException {
        Check.sentence("what each of their answers means");
        for (Field field : DynamicShortPaths.class.getFields()) {
            int value = field.getInt(null);
            boolean row = text.contains("| `" + field.getName() + "` | " + value + " |");
            boolean told = row || text.contains("`" + field.getName() + "` = " + value);
            Check.same(field.getName() + " is told with its value", told, true);
        }
    }

    private static void everyTestIsTold(String text) throws IOException {
        Check.sentence("how to run its tests, the project's own and those under ../shared/tests");
        Check.same("the script is told", text.contains("\n.ci/run\n"), true);
        Check.same("the shared tests are told", text.contains("../shared/tests/"), true);
        try (var files = Files.list(Path.of("src/test/java"))) {
            for (String file : files.map(path -> path.getFileName().toString()).toList()) {
                String name = file.replace(".java", "");
                boolean told = text.contains("\n| " + name + " |") || text.contains("`" + name + "`");
                Check.same(name + " is told", told, true);
            }
        }
    }
}
