import java.io.IOException;
import java.lang.reflect.Method;
import java.lang.reflect.Modifier;
import java.nio.file.Files;
import java.nio.file.Path;
import java.util.regex.Matcher;
import java.util.regex.Pattern;
import java.util.stream.Stream;

/** What README.md shows holds, and it leaves out no call and no test. */
public final class ReadmeTest {
    private static final Pattern SHOWN = Pattern.compile("x\\.(\\w+\\(.*\\)); +// (-?\\d+).*");
    private static final Pattern SIGN = Pattern.compile("'(.)'");
    private static final Due due = new Due();

    public static void main(String[] args) throws IOException {
        String page = Files.readString(Path.of("README.md"));
        int from = page.indexOf("```java\n");
        int to = page.indexOf("```", from + 3);
        due.holds("README.md has an example", from >= 0 && to > from);
        if (from >= 0 && to > from) {
            theExample(page.substring(from, to));
        }
        everyCall(page);
        everyTest(page);
        due.end();
    }

    private static void theExample(String example) {
        ThrowRows x = new ThrowRows();
        int shown = 0;
        for (String line : example.lines().toList()) {
            Matcher matcher = SHOWN.matcher(line);
            if (matcher.matches()) {
                String call = SIGN.matcher(matcher.group(1)).replaceAll(sign -> "" + (int) sign.group(1).charAt(0));
                due.is("README.md: " + line, Run.answer(x, call), Long.parseLong(matcher.group(2)));
                shown++;
            } else {
                due.holds("README.md shows what comes of " + line, !line.startsWith("x."));
            }
        }
        due.holds("README.md shows some calls", shown > 10);
    }

    private static void everyCall(String page) {
        for (Method method : ThrowRows.class.getDeclaredMethods()) {
            if (Modifier.isPublic(method.getModifiers())) {
                due.holds("README.md names " + method.getName(), page.contains("`" + method.getName() + "`"));
            }
        }
    }

    private static void everyTest(String page) throws IOException {
        try (Stream<Path> files = Files.list(Path.of("src", "test", "java"))) {
            for (Path file : files.toList()) {
                String name = file.getFileName().toString().replace(".java", "");
                due.holds("README.md names " + name, !name.endsWith("Test") || page.contains("`" + name + "`"));
            }
        }
    }
}
