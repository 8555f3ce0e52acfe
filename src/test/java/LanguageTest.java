import java.io.IOException;
import java.nio.file.Files;
import java.nio.file.Path;
import java.util.Arrays;
import java.util.List;
import java.util.regex.Matcher;
import java.util.regex.Pattern;

/** The rules of LANGUAGE.md that can be seen in the words of the source. Runs in the project's folder. */
public final class LanguageTest {
    private static final List<String> WORDS_NOT_USED = Arrays.asList(
            "package", "import", "protected", "class", "interface", "enum", "record",
            "float", "double", "String", "Object", "Math", "Integer", "Long", "System", "Arrays",
            "null", "throw", "throws", "try", "catch", "finally", "synchronized", "assert",
            "instanceof", "var", "native", "volatile", "transient");

    public static void main(String[] args) throws IOException {
        String source = Files.readString(Path.of("src/main/java/ProjectSchedule.java"));
        String code = source.replaceAll("(?s)/\\*.*?\\*/", " ").replaceAll("//[^\n]*", " ");
        String head = "public final class ProjectSchedule {";
        Check.holds("the file begins with the class", code.trim().startsWith(head));
        String body = code.trim().substring(head.length());
        for (String word : WORDS_NOT_USED) {
            Check.holds("'" + word + "' is not used", !found("\\b" + word + "\\b", body));
        }
        Check.holds("no lambda, method reference, annotation or text", !found("->|::|@|\"", body));
        Check.holds("no array of arrays", !found("\\[\\]\\s*\\[|\\]\\s*\\[", body));
        arrays(body);
        loops(body);
        Check.holds("at most forty fields", count("\n    private (?!static)[^(){}]*;", body) <= 40);
        methods(body);
        callsAreNotDeep(body);
        Check.end();
    }

    private static boolean found(String pattern, String text) {
        return Pattern.compile(pattern).matcher(text).find();
    }

    private static int count(String pattern, String text) {
        Matcher matcher = Pattern.compile(pattern).matcher(text);
        int count = 0;
        while (matcher.find()) {
            count++;
        }
        return count;
    }

    private static void arrays(String body) {
        int made = count("\\bnew\\b", body);
        int fields = count("\n    private final (int|boolean)\\[\\] \\w+ = new (int|boolean)\\[[A-Z_]+\\];", body);
        Check.due("objects made elsewhere than in a field's initialiser", 0, made - fields);
        Check.due("static fields that are no int constants", 0,
                count("\\bstatic\\b", body) - count("(public|private) static final int [A-Z_]+ =", body));
    }

    /** Stricter than rule 8: a counter goes up by one to a bound that is a single name. */
    private static void loops(String body) {
        int counted = count("\\bfor \\(int (\\w+) = [^;]+; \\1 < \\w+; \\1\\+\\+\\) \\{", body);
        Check.holds("loops are found", counted > 0);
        Check.due("loops without a counter and a bound", 0, count("\\b(for|while|do)\\b", body) - counted);
    }

    private static String[] split(String body) {
        return body.split("\n    (?=(public|private) (?!static|final)[^=;]*\\{)");
    }

    private static void methods(String body) {
        String[] parts = split(body);
        Check.holds("methods are found", parts.length > 13);
        for (int i = 1; i < parts.length; i++) {
            String first = parts[i].substring(0, parts[i].indexOf('\n'));
            Check.holds("short: " + first, parts[i].split("\n").length <= 60);
            Check.holds("at most seven parameters: " + first, count(",", first) < 7);
            String inside = parts[i].substring(first.length()).replaceAll("\\b(if|for|while|switch|return)\\b", ";");
            Check.holds("no call in a call's arguments: " + first,
                    !found("\\b\\w+\\([^();]*\\b\\w+\\(", inside));
        }
    }

    /** Round by round, a method is as deep as the deepest one it calls and one more. */
    private static void callsAreNotDeep(String body) {
        String[] parts = split(body);
        int[] depth = new int[parts.length];
        // With recursion the depth would grow in every round, beyond all that is allowed.
        for (int round = 0; round < parts.length; round++) {
            for (int caller = 1; caller < parts.length; caller++) {
                depth[caller] = 1;
                for (int called = 1; called < parts.length; called++) {
                    if (calls(parts[caller], parts[called])) {
                        depth[caller] = Math.max(depth[caller], depth[called] + 1);
                    }
                }
            }
        }
        for (int i = 1; i < parts.length; i++) {
            Check.holds("calls at most six deep: " + name(parts[i]), depth[i] <= 6);
        }
    }

    private static boolean calls(String caller, String called) {
        String inside = caller.substring(caller.indexOf('{'));
        return found("\\b" + name(called) + "\\(", inside);
    }

    private static String name(String part) {
        String head = part.substring(0, part.indexOf('('));
        return head.substring(head.lastIndexOf(' ') + 1);
    }
}
