import java.io.IOException;
import java.nio.file.Files;
import java.nio.file.Path;
import java.util.ArrayList;
import java.util.Comparator;
import java.util.LinkedHashMap;
import java.util.List;
import java.util.Map;

/**
 * Checks that go through the document sentence by sentence. At the end each quoted sentence must stand in its section of
 * the document, none may be without a check, and no word of such a section may be left that no quote has.
 */
final class Sentences {
    private static final Path DOCUMENT = Path.of("../shared/DOC.md");

    private final Checks check = new Checks();
    private final Map<String, List<String>> quotes = new LinkedHashMap<>();
    private String section = "";
    private String sentence = "";
    private int checksOfIt = 0;

    /** The section whose first line begins so. */
    void section(String beginning) {
        section = beginning;
        quotes.put(beginning, new ArrayList<>());
    }

    /** All checks from here on are of this sentence. */
    void says(String words) {
        endSentence();
        names(words);
        sentence = words;
    }

    /** A sentence that no call can break. */
    void names(String words) {
        quotes.get(section).add(words);
    }

    void due(String call, long got, long want) {
        checksOfIt++;
        check.due(section + " \"" + sentence + "\" " + call, got, want);
    }

    void holds(String what, boolean truth) {
        due(what, truth ? 1 : 0, 1);
    }

    private void endSentence() {
        check.holds("\"" + sentence + "\" has a check", sentence.isEmpty() || checksOfIt > 0);
        checksOfIt = 0;
    }

    void end(String name) throws IOException {
        endSentence();
        if (Files.isReadable(DOCUMENT)) {
            List<String> lines = Files.readAllLines(DOCUMENT);
            for (String beginning : quotes.keySet()) {
                compare(beginning, textOf(lines, beginning), new ArrayList<>(quotes.get(beginning)));
            }
        }
        check.end(name);
    }

    /** A section goes on until the next heading; fences, headings and the calls' own forms are no sentences. */
    private static String textOf(List<String> lines, String beginning) {
        StringBuilder text = new StringBuilder();
        boolean within = false;
        for (String line : lines) {
            if (line.startsWith("## ") || line.startsWith("====")) {
                within = line.startsWith(beginning);
            }
            if (within && !line.startsWith("#") && !line.startsWith("```") && !line.startsWith("Ahead of the calls")) {
                text.append(' ').append(line.replaceAll("^=+ \\d+ ", "").replaceAll("^`[^`]*`:", ""));
            }
        }
        return plain(text.toString());
    }

    private static String plain(String text) {
        return text.replaceAll("\\s+", " ").trim();
    }

    private void compare(String beginning, String text, List<String> quoted) {
        String left = text;
        quoted.sort(Comparator.comparingInt(words -> -words.length()));
        for (String words : quoted) {
            check.holds(beginning + " has \"" + words + "\"", text.contains(plain(words)));
            left = left.replace(plain(words), " / ");
        }
        check.holds(beginning + " has what no test quotes: " + left, !left.matches(".*[A-Za-z0-9].*"));
    }
}
