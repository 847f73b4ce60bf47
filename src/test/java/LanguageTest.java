import java.io.IOException;
import java.nio.file.Files;
import java.nio.file.Path;
import java.util.ArrayList;
import java.util.List;
import java.util.regex.Matcher;
import java.util.regex.Pattern;

/** Those rules of ../shared/LANGUAGE.md that can be seen in the text of the class. */
public final class LanguageTest {
    private static final Due due = new Due();
    private static final String FORBIDDEN = "\\b(throw|throws|try|catch|finally|synchronized|assert|package|native"
        + "|volatile|transient|protected|Object|Thread|Random|System\\.(?!arraycopy)\\w+|var|\\w+Exact)\\b|->|::|@";

    public static void main(String[] args) throws IOException {
        String text = Files.readString(Path.of("src/main/java/ThrowRows.java"));
        String code = text.replaceAll("(?s)/\\*.*?\\*/", "").replaceAll("//[^\n]*", "");
        due.holds("no sign beyond 127", text.chars().allMatch(sign -> sign < 128));
        Matcher wrong = Pattern.compile(FORBIDDEN).matcher(code);
        while (wrong.find()) {
            due.holds("rule 3, 4, 6 or 13: " + wrong.group(), false);
        }
        Matcher imported = Pattern.compile("import ([^;]*);").matcher(code);
        while (imported.find()) {
            due.holds("rule 4: " + imported.group(1), imported.group(1).equals("java.util.Arrays"));
        }
        Matcher used = Pattern.compile("\\b(Arrays|Integer|Long|Math)\\.(\\w+)").matcher(code);
        while (used.find()) {
            due.holds("rule 4: " + used.group(), List.of("fill", "bitCount", "floorMod", "max", "min", "MIN_VALUE")
                    .contains(used.group(2)));
        }
        due.holds("rule 11: at most twelve classes", code.split("\\bclass ").length - 1 <= 12);
        methodsAreShort(code.split("\n"));
        due.end();
    }

    private static void methodsAreShort(String[] lines) {
        List<Integer> begins = new ArrayList<>();
        for (int at = 0; at < lines.length; at++) {
            String line = lines[at].strip();
            if (line.endsWith(") {") && !line.matches("(if|for|while|switch|\\}|&&|\\|\\|).*")) {
                begins.add(at);
                due.holds("rule 11: at most seven parameters: " + line, line.split(",").length <= 7);
            }
            if (line.equals("}") && !begins.isEmpty()) {
                int begin = begins.get(begins.size() - 1);
                if (indent(lines[begin]) == indent(lines[at])) {
                    due.holds("rule 11: at most sixty lines: " + lines[begin], at - begin < 60);
                    begins.remove(begins.size() - 1);
                }
            }
        }
        due.holds("every method's end was found", begins.isEmpty());
    }

    private static int indent(String line) {
        return line.length() - line.stripLeading().length();
    }
}
