import java.io.IOException;
import java.nio.file.Files;
import java.nio.file.Path;
import java.util.LinkedHashMap;
import java.util.Map;
import java.util.regex.Matcher;
import java.util.regex.Pattern;

/**
 * Tests that begin with words of the document, and what of the document has none yet. Sections:
 * "use", "T0" (what stands ahead of the first term), "T1" .. "T6", "P1" .. "P35".
 */
final class Sentences {
    private static final Path DOCUMENT = Path.of("../shared/DOC.md");

    private final Due due;
    private final Map<String, String> sections;
    private final Map<String, boolean[]> tested = new LinkedHashMap<>();
    // the tests hold without the document, too; then nobody can tell whether its words are all there
    private final boolean isThere = Files.exists(DOCUMENT);

    Sentences(Due due) throws IOException {
        this.due = due;
        this.sections = isThere ? sectionsOf(Files.readString(DOCUMENT)) : Map.of();
        sections.forEach((name, text) -> tested.put(name, new boolean[text.length()]));
    }

    /** Begins the test of a sentence, on a new object. */
    Run of(String section, String words) {
        if (isThere) {
            mark(section, words);
        }
        return new Run(due, section + " \"" + words + "\"", new ThrowRows());
    }

    /** The same with a PATTERN. */
    Run of(String section, String words, String text) {
        return of(section, words).text(text);
    }

    private void mark(String section, String words) {
        String text = sections.getOrDefault(section, "");
        int at = text.indexOf(words);
        due.holds("the document says in " + section + ": " + words, at >= 0 && !words.isEmpty());
        for (; at >= 0; at = text.indexOf(words, at + 1)) {
            for (int sign = at; sign < at + words.length(); sign++) {
                tested.get(section)[sign] = true;
            }
        }
    }

    /** Every word of the terms and of the promises stands at the head of a test. */
    void allAreTested() {
        if (!isThere) {
            System.out.println(DOCUMENT + " is not there: words without a test were not looked for");
            return;
        }
        due.is("use, terms and promises that were found", sections.size(), 1 + 7 + 35);
        sections.forEach((name, text) -> {
            StringBuilder left = new StringBuilder();
            for (int sign = 0; sign < text.length(); sign++) {
                left.append(tested.get(name)[sign] ? '_' : text.charAt(sign));
            }
            String untested = left.toString().replaceAll("_+", " _ ").strip();
            due.holds(name + " has words without a test: " + untested, !untested.matches("(?s).*[A-Za-z0-9].*"));
        });
    }

    private static Map<String, String> sectionsOf(String document) {
        Map<String, String> sections = new LinkedHashMap<>();
        String text = document.replace("```text", " ").replace("```", " ").replaceAll("\\s+", " ");
        sections.put("use", between(text, "what a dropped ball leaves empty.", "## The public face"));
        sections.put("T0", between(text, "## Terms", "==== 1"));
        for (int term = 1; term <= 5; term++) {
            sections.put("T" + term, between(text, "==== " + term + " ", "==== " + (term + 1) + " "));
        }
        sections.put("T6", between(text, "==== 6 ", "Ahead of the calls"));
        Matcher promise = Pattern.compile("## Promise (\\d+): [^`]*`[^`]*`: (.*?) (?=## )").matcher(text);
        while (promise.find()) {
            sections.put("P" + promise.group(1), promise.group(2));
        }
        return sections;
    }

    private static String between(String text, String begin, String end) {
        int from = text.indexOf(begin) + begin.length();
        return text.substring(from, text.indexOf(end, from)).strip();
    }
}
