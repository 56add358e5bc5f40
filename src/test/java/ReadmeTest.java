import java.io.IOException;
import java.lang.reflect.Method;
import java.lang.reflect.Modifier;
import java.nio.file.Files;
import java.nio.file.Path;
import java.util.HashMap;
import java.util.List;
import java.util.Map;
import java.util.regex.Matcher;
import java.util.regex.Pattern;

/** README.md: its example answers what stands there behind each call, and it names every method. */
public final class ReadmeTest {
    private static final Pattern LINE =
        Pattern.compile("(?:int (\\w+) = )?layout\\.(\\w+)\\((.*)\\); +// (true|false|-?\\d+)(:.*)?");
    private static final Map<String, String> WORDS = new HashMap<>(Map.of("false", "0", "true", "1"));

    public static void main(String[] args) throws IOException {
        List<String> lines = Files.readAllLines(Path.of("README.md"));
        int begin = lines.indexOf("```java");
        Check.due("README.md has an example", begin >= 0, true);
        example(lines.subList(begin + 1, lines.size()));
        methods(String.join("\n", lines));
        Check.finish();
    }

    private static void example(List<String> lines) {
        Check.due("the first line of the example", lines.get(0), "DockLayout layout = new DockLayout();");
        Run layout = new Run();
        for (String line : lines.subList(1, lines.indexOf("```"))) {
            if (!line.isEmpty()) {
                carryOut(layout, line);
            }
        }
        Check.due("the example has calls", layout.callCount() > 20, true);
    }

    private static void carryOut(Run layout, String line) {
        Matcher parts = LINE.matcher(line);
        if (!parts.matches()) {
            throw new AssertionError("a line of the example that can't be read: " + line);
        }
        StringBuilder call = new StringBuilder(parts.group(2));
        for (String argument : parts.group(3).isEmpty() ? new String[0] : parts.group(3).split(", ")) {
            call.append(' ').append(numberOf(argument));
        }
        long answer = layout.call(call.toString());
        Check.due("README.md: " + line, answer, Long.parseLong(numberOf(parts.group(4))));
        if (parts.group(1) != null) {
            WORDS.put(parts.group(1), Long.toString(answer));
        }
    }

    private static String numberOf(String word) {
        return word.startsWith("'") ? Integer.toString(word.charAt(1)) : WORDS.getOrDefault(word, word);
    }

    private static void methods(String readme) {
        for (Method method : DockLayout.class.getDeclaredMethods()) {
            if (Modifier.isPublic(method.getModifiers())) {
                Check.due("README.md names " + method.getName(), readme.contains("`" + method.getName() + "`"), true);
            }
        }
    }
}
