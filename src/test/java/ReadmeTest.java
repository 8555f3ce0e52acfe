import java.io.IOException;
import java.lang.reflect.Method;
import java.nio.file.Files;
import java.nio.file.Path;
import java.util.HashMap;
import java.util.Map;
import java.util.Set;
import java.util.TreeSet;
import java.util.regex.Matcher;
import java.util.regex.Pattern;
import java.util.stream.Stream;

/** README.md as it stands: what its example answers, and its table of tests. Runs in the project's folder. */
public final class ReadmeTest {
    private static final Pattern EXAMPLE = Pattern.compile("(?s)```java\n(.*?)```");
    private static final Pattern CALL = Pattern.compile(
            "(?:int (\\w+) = )?x\\.(\\w+)\\((.*)\\); +// (-?\\d+): .*");
    private static final Pattern TEST = Pattern.compile("\\| `src/test/java/(\\w+)` \\|");

    public static void main(String[] args) throws IOException, ReflectiveOperationException {
        String readme = Files.readString(Path.of("README.md"));
        example(readme);
        tests(readme);
        Check.end();
    }

    private static void example(String readme) throws ReflectiveOperationException {
        Matcher block = EXAMPLE.matcher(readme);
        Check.holds("there is an example", block.find());
        String[] lines = block.group(1).split("\n");
        Check.holds("it makes an object", lines[0].equals("ProjectSchedule x = new ProjectSchedule();"));
        ProjectSchedule x = new ProjectSchedule();
        Map<String, Object> values = new HashMap<>(Map.of("true", true, "false", false));
        Set<String> called = new TreeSet<>();
        for (int i = 1; i < lines.length; i++) {
            Matcher call = CALL.matcher(lines[i]);
            Check.holds("a call with its answer: " + lines[i], call.matches());
            int got = answer(x, call.group(2), call.group(3), values);
            Check.due(lines[i], Integer.parseInt(call.group(4)), got);
            values.put(call.group(1), got);
            called.add(call.group(2));
        }
        for (Method method : ProjectSchedule.class.getMethods()) {
            if (method.getDeclaringClass() == ProjectSchedule.class) {
                Check.holds("the example shows " + method.getName(), called.contains(method.getName()));
            }
        }
    }

    private static int answer(ProjectSchedule x, String name, String arguments, Map<String, Object> values)
            throws ReflectiveOperationException {
        String[] words = arguments.isEmpty() ? new String[0] : arguments.split(", ");
        Object[] given = new Object[words.length];
        for (int i = 0; i < words.length; i++) {
            given[i] = values.containsKey(words[i]) ? values.get(words[i]) : Integer.valueOf(words[i]);
        }
        for (Method method : ProjectSchedule.class.getMethods()) {
            if (method.getName().equals(name)) {
                return (Integer) method.invoke(x, given);
            }
        }
        throw new NoSuchMethodException(name);
    }

    private static void tests(String readme) throws IOException {
        Set<String> named = new TreeSet<>();
        Matcher row = TEST.matcher(readme);
        while (row.find()) {
            named.add(row.group(1));
        }
        Set<String> there = new TreeSet<>();
        try (Stream<Path> files = Files.list(Path.of("src/test/java"))) {
            files.map(file -> file.getFileName().toString())
                    .filter(name -> name.endsWith("Test.java"))
                    .forEach(name -> there.add(name.replace(".java", "")));
        }
        Check.holds("the table names " + named + ", there are " + there, named.equals(there));
    }
}
