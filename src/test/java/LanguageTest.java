import java.io.IOException;
import java.nio.file.Files;
import java.nio.file.Path;
import java.util.regex.Matcher;
import java.util.regex.Pattern;

/** What of ../shared/LANGUAGE.md can be seen in the program's text: words that it leaves out, lengths, the library. */
final class LanguageTest {
    private static final String[] LEFT_OUT = {"throw", "throws", "try", "catch", "synchronized", "assert", "import",
        "package", "Object", "var", "hashCode", "toString", "Exact", "native", "transient", "volatile"};

    public static void main(String[] args) throws IOException {
        String program = Files.readString(Path.of("src/main/java/SidelessTown.java"));
        String code = program.replaceAll("(?s)/\\*.*?\\*/", "").replaceAll("//[^\n]*", "")
            .replaceAll("\"[^\"\n]*\"", "\"\"");
        for (String word : LEFT_OUT) {
            Check.holds("no " + word, !Pattern.compile("\\b" + word + "\\b").matcher(code).find());
        }
        Check.holds("no lambda", !code.contains("->"));
        Check.holds("no method reference", !code.contains("::"));
        Check.holds("no joining by +", !code.contains("\"\" +") && !code.contains("+ \"\""));
        Check.holds("signs 1 to 127", program.chars().allMatch(c -> c >= 1 && c <= 127));
        library(code);
        arraysInOnePlace(code);
        lengths(code);
        Check.end();
    }

    private static void library(String code) {
        Matcher m = Pattern.compile("\\b(Math|Integer|Long|System|Arrays|String|StringBuilder)\\.(\\w+)").matcher(code);
        while (m.find()) {
            Check.holds(m.group() + " is in the library that is told", m.group().matches("Math\\.(max|min|floorMod)"));
        }
    }

    /** Indexes stand in the few methods alone that look at them first. */
    private static void arraysInOnePlace(String code) {
        int indexes = 0;
        Matcher m = Pattern.compile("\\w\\[[^\\]]+\\]").matcher(code);
        while (m.find()) {
            indexes += m.group().contains("MOST") || m.group().contains("STATES") || m.group().contains("PAIRS")
                || m.group().contains("PLAIN") ? 0 : 1;
        }
        Check.due("indexes used", indexes, 6);
    }

    private static void lengths(String code) {
        int start = -1;
        String[] lines = code.split("\n");
        for (int i = 0; i < lines.length; i++) {
            if (lines[i].matches(" {4}( {4})?(public |private |static |boolean |int |void |[A-Z])[^=;]*\\) \\{")) {
                start = i;
            } else if (lines[i].matches(" {4}( {4})?\\}") && start >= 0) {
                Check.holds("some sixty lines at most, from line " + start, i - start < 60);
                start = -1;
            }
        }
        Matcher m = Pattern.compile("\\bclass\\b").matcher(code);
        int classes = 0;
        while (m.find()) {
            classes++;
        }
        Check.holds("some twelve classes: " + classes, classes <= 12);
    }
}
