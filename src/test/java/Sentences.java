import java.io.IOException;
import java.nio.charset.StandardCharsets;
import java.nio.file.Files;
import java.nio.file.Path;
import java.util.Arrays;
import java.util.LinkedHashMap;
import java.util.Map;

/**
 * The sentences of ../shared/DOC.md that tests name. A sentence that a test names must stand in
 * its section word by word, and what no test names of a section is told as wrong: so a document
 * that has changed, or a sentence without a test, is seen.
 */
final class Sentences {
    private static final Path DOCUMENT = Path.of("../shared/DOC.md");

    private final Due due;
    private final String document;
    private final Map<String, String> texts = new LinkedHashMap<>();
    private final Map<String, boolean[]> named = new LinkedHashMap<>();
    private String now = "";

    /** Of the sections whose heading begins so, every word has to be named. */
    Sentences(String about, String... sections) throws IOException {
        due = new Due(about);
        document = Files.readString(DOCUMENT, StandardCharsets.UTF_8);
        for (String section : sections) {
            open(section);
        }
    }

    /** Of a section that says little to test, just what a test names has to stand there. */
    void alsoPartsOf(String section) {
        open(section);
        Arrays.fill(named.get(section), true);
    }

    private void open(String section) {
        String text = textOf(document, section);
        due.is("section '" + section + "' stands in the document", text.isEmpty() ? 0 : 1, 1);
        texts.put(section, text);
        named.put(section, new boolean[text.length()]);
    }

    /** A section's sentences in one line, without headings, interfaces and marks. */
    private static String textOf(String document, String section) {
        StringBuilder text = new StringBuilder();
        boolean inside = false;
        for (String line : document.split("\n")) {
            if (line.startsWith("## ")) {
                inside = line.equals("## " + section) || line.startsWith("## " + section + ":");
            } else if (inside && !line.startsWith("```") && !line.startsWith("Ahead of the calls")) {
                text.append(' ').append(line.replaceAll("^`[^`]*`:|^=+ \\d", ""));
            }
        }
        return text.toString().replaceAll("\\s+", " ").strip();
    }

    /** The tests that follow are about this sentence. */
    void names(String section, String words) {
        now = section + ", '" + words + "'";
        String text = texts.get(section);
        int found = 0;
        for (int at = text.indexOf(words); at >= 0; at = text.indexOf(words, at + 1)) {
            found++;
            for (int k = 0; k < words.length(); k++) {
                named.get(section)[at + k] = true;
            }
        }
        due.is(now + " stands in the document", found > 0 ? 1 : 0, 1);
    }

    /** Calls on a new object. */
    void run(String calls) {
        runOn(new StepOrders(), calls);
    }

    void runOn(StepOrders x, String calls) {
        new Calls(due, x).make(now, calls);
    }

    void is(String call, long got, long want) {
        due.is(now + ": " + call, got, want);
    }

    void same(String call, String got, String want) {
        due.same(now + ": " + call, got, want);
    }

    void end() {
        for (String section : texts.keySet()) {
            due.same("words of '" + section + "' that no test names", unnamed(section), "");
        }
        due.end();
    }

    private String unnamed(String section) {
        StringBuilder left = new StringBuilder();
        for (int k = 0; k < texts.get(section).length(); k++) {
            left.append(named.get(section)[k] ? ' ' : texts.get(section).charAt(k));
        }
        return left.toString().replaceAll("\\s+", " ").strip();
    }
}
