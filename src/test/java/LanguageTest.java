import java.io.IOException;
import java.nio.file.Files;
import java.nio.file.Path;
import java.util.List;
import java.util.regex.Matcher;
import java.util.regex.Pattern;

/** What of LANGUAGE.md can be seen from the text of the class; its path is the argument. */
public final class LanguageTest {
    private static final int METHOD_LINES = 60;
    private static final String[] RULED_OUT = {
        "->", "::", "\\bcatch\\b", "\\bfinally\\b", "\\bassert\\b", "\\bsynchronized\\b", "\\binstanceof\\b",
        "Exact\\(", "System\\.", "\\bRandom\\b", "\\bThread\\b", "\\bdouble\\b", "\\bfloat\\b", "\\bprotected\\b",
        "getMessage", "hashCode", "toString", "\\bpackage\\b", "\\bboolean\\[\\]\\[\\]",
    };

    public static void main(String[] args) throws IOException {
        List<String> source = Files.readAllLines(Path.of(args[0]));
        String all = withoutTextsAndComments(String.join("\n", source));
        for (String ruledOut : RULED_OUT) {
            Checks.due("stands in the class: " + ruledOut, false, Pattern.compile(ruledOut).matcher(all).find());
        }
        checkImports(source);
        checkMethodLengths(source);
        checkThrows(all);
        Checks.finish("LanguageTest");
    }

    private static String withoutTextsAndComments(String text) {
        String bare = text.replaceAll("\"[^\"\n]*\"", "\"\"");
        return Pattern.compile("/\\*.*?\\*/|//[^\n]*", Pattern.DOTALL).matcher(bare).replaceAll("");
    }

    private static void checkImports(List<String> source) {
        for (String line : source) {
            if (line.startsWith("import ")) {
                Checks.due("import", "import java.util.NoSuchElementException;", line);
            }
        }
    }

    /** The source is indented by four, so that a brace of the same depth ends what a line began. */
    private static void checkMethodLengths(List<String> source) {
        int start = -1;
        String end = "";
        for (int i = 0; i < source.size(); i++) {
            String line = source.get(i);
            Matcher head = Pattern.compile("^( {4}| {8})(?!.*\\bclass\\b)\\S.*\\) \\{$|^( {4}| {8})(?:public|private)\\b[^;{]*$")
                    .matcher(line);
            if (start < 0 && head.find()) {
                start = i;
                end = line.substring(0, line.length() - line.stripLeading().length()) + "}";
            } else if (start >= 0 && line.equals(end)) {
                Checks.due("short enough: line " + (start + 1), true, i - start <= METHOD_LINES);
                start = -1;
            }
        }
        Checks.due("every method was seen to end", -1, start);
    }

    private static void checkThrows(String all) {
        Matcher thrown = Pattern.compile("\\bthrow\\b([^;]*);").matcher(all);
        while (thrown.find()) {
            String what = thrown.group(1).trim();
            Checks.due("throw " + what, true, what.matches("new (IllegalState|IllegalArgument|IndexOutOfBounds"
                    + "|NoSuchElement)Exception\\((\"\")?\\)"));
        }
    }
}
