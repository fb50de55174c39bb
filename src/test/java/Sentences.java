import java.io.IOException;
import java.nio.file.Files;
import java.nio.file.Path;
import java.util.LinkedHashMap;
import java.util.Map;

/**
 * The document's sentences, each named by the test that looks at it. At the end each name must stand in the
 * document to the letter, and of the parts that are looked at no word may be left without a test.
 */
final class Sentences {
    private static final Map<String, StringBuilder> PARTS = new LinkedHashMap<>();

    private Sentences() {
    }

    /** Cuts the document into its parts, by its headings; a promise is called by its number. */
    static void read(Path document) throws IOException {
        StringBuilder part = new StringBuilder();
        for (String line : Files.readAllLines(document)) {
            if (line.startsWith("#")) {
                part = new StringBuilder();
                PARTS.put(line.replaceFirst("^#+ ", "").replaceFirst("^(Promise \\d+):.*", "$1"), part);
            } else {
                part.append(line).append('\n');
            }
        }
    }

    /** Takes the sentence out of its part, once, and has all that is checked from now on checked for it. */
    static void name(String part, String sentence) {
        String named = part + ": \"" + sentence + "\"";
        Checks.underSentence(named);
        StringBuilder left = PARTS.get(part);
        int start = left == null ? -1 : left.indexOf(sentence);
        Checks.due("the sentence stands in the document, and has no other test", true, start >= 0);
        if (start >= 0) {
            left.replace(start, start + sentence.length(), "\n");
        }
    }

    /** What is left of a part but for marks, the sign of a call, and remarks on the order of the interface. */
    static void checkNoneIsLeft(String part) {
        Checks.underSentence(part);
        String left = PARTS.containsKey(part) ? PARTS.get(part).toString() : "no such part";
        left = left.replaceAll("(?m)^`[^`]*`: ?", "").replaceAll("(?m)^(Ahead of the calls|Sites, lines$).*", "");
        Checks.due("is left without a test", "", left.replaceAll("[\\s-]+", " ").trim());
    }
}
