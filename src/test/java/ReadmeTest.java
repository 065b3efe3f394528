import java.io.IOException;
import java.lang.reflect.Method;
import java.nio.file.Files;
import java.nio.file.Path;
import java.util.HashMap;
import java.util.Map;
import java.util.regex.Matcher;
import java.util.regex.Pattern;

/**
 * Makes the calls that README.md shows, line by line, and holds each against
 * the answer that is told behind it; holds the names that README.md gives to
 * methods and files against those that there are.
 */
public final class ReadmeTest extends Checks {
    private static final Path README = Path.of("README.md");
    private static final Pattern SHOWN = Pattern.compile("(?m)^(?:int (\\w+) = )?x\\.(\\w+)\\(([^)]*)\\); +// (-?\\d+): .*$");

    private static String example(String text) {
        Matcher block = Pattern.compile("(?s)```java\n(.*?)```").matcher(text);
        if (!block.find()) {
            throw new IllegalStateException("README.md shows no calls");
        }
        return block.group(1);
    }

    private static Map<String, Method> methods() {
        Map<String, Method> methods = new HashMap<>();
        for (Method method : SecondHelping.class.getMethods()) {
            methods.put(method.getName(), method);
        }
        return methods;
    }

    /** A number, a letter between quotes, or a name that an earlier line gave to an answer. */
    private static int valueOf(String word, Map<String, Integer> named) {
        if (word.startsWith("'")) {
            return word.charAt(1);
        }
        return named.containsKey(word) ? named.get(word) : Integer.parseInt(word);
    }

    private static long answer(SecondHelping x, Method method, String words, Map<String, Integer> named) throws Exception {
        String[] parts = words.isEmpty() ? new String[0] : words.split(", ");
        Object[] values = new Object[parts.length];
        for (int i = 0; i < parts.length; i++) {
            values[i] = valueOf(parts[i], named);
        }
        return ((Number) method.invoke(x, values)).longValue();
    }

    private static void shownCalls(String text, Map<String, Method> methods) throws Exception {
        String example = example(text);
        SecondHelping x = new SecondHelping();
        Map<String, Integer> named = new HashMap<>();
        Matcher lines = SHOWN.matcher(example);
        int shown = 1;
        while (lines.find()) {
            shown++;
            long got = answer(x, methods.get(lines.group(2)), lines.group(3), named);
            due(0, "README.md, " + lines.group(), got, Long.parseLong(lines.group(4)));
            if (lines.group(1) != null) {
                named.put(lines.group(1), (int) got);
            }
        }
        due(0, "README.md, lines that were understood", shown, example.lines().count());
    }

    /** In `name` or `name(..)` stands a method of the class, in `src/..` a file. */
    private static void names(String text, Map<String, Method> methods) {
        Matcher calls = Pattern.compile("`(\\w+)\\([^`]*\\)`").matcher(text);
        int found = 0;
        while (calls.find()) {
            found++;
            due(0, "README.md, method " + calls.group(1), methods.containsKey(calls.group(1)) ? 1 : 0, 1);
        }
        due(0, "README.md names methods", found > 0 ? 1 : 0, 1);
        Matcher files = Pattern.compile("`((?:src|\\.\\./shared)/[^`]*)`").matcher(text);
        while (files.find()) {
            due(0, "README.md, file " + files.group(1), Files.exists(Path.of(files.group(1))) ? 1 : 0, 1);
        }
    }

    /** The table of answers is the one of the document's REFUSALS. */
    private static void numbers(String text) {
        String[] words = {"NOBODY", "OTHER", "STATE", "BELOW", "", "ROOM"};
        for (int i = 0; i < words.length; i++) {
            boolean told = text.contains("| -" + (i + 1) + " | refused, " + words[i] + ":");
            due(0, "README.md tells -" + (i + 1), told ? 1 : 0, words[i].isEmpty() ? 0 : 1);
        }
    }

    public static void main(String[] args) throws Exception {
        String text = readme();
        Map<String, Method> methods = methods();
        shownCalls(text, methods);
        names(text, methods);
        numbers(text);
        end("all that README.md shows is so");
    }

    private static String readme() throws IOException {
        return Files.readString(README);
    }
}
