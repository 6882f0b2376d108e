import java.nio.charset.StandardCharsets;
import java.nio.file.Files;
import java.nio.file.Path;
import java.util.regex.Matcher;
import java.util.regex.Pattern;

/** What of LANGUAGE.md a look at the source can tell. */
public final class LanguageTest {
    private LanguageTest() {
    }

    public static void main(String[] args) throws Exception {
        String all = Files.readString(Path.of(System.getProperty("source")), StandardCharsets.UTF_8);
        String code = all.replaceAll("(?s)/\\*.*?\\*/", "").replaceAll("//[^\n]*", "").replaceAll("\"[^\"\n]*\"", "\"\"");
        Due.yes("plain signs alone", all.chars().allMatch(c -> c == '\n' || c >= 32 && c < 127));
        String[] words = {
            "throw", "throws", "try", "catch", "finally", "synchronized", "assert", "import", "package", "volatile", "native",
            "double", "float", "Exact", "toString", "hashCode", "protected", "Thread", "Random", "Object", "->", "::"
        };
        for (String word : words) {
            Pattern pattern = Pattern.compile(word.matches("\\w+") && !word.equals("Exact") ? "\\b" + word + "\\b" : word);
            Due.no("uses " + word, pattern.matcher(code).find());
        }
        // Rows and parts are made with the ship: no call makes one.
        int made = code.indexOf("public ShipSways() {");
        int until = code.indexOf("\n    }", made);
        String calls = code.substring(0, made) + code.substring(until);
        for (String line : calls.split("\n")) {
            if (line.matches(".*\\bnew\\b.*")) {
                Due.yes(line.trim() + " is a row's beginning", line.matches(" {8}final int\\[\\] \\w+ = new int\\[.*\\];"));
            }
        }
        Due.yes("some twelve classes", occurrences(code, "\\bclass\\b") <= 12);
        methodsAreShort(all);
        Due.end();
    }

    private static int occurrences(String code, String pattern) {
        Matcher matcher = Pattern.compile(pattern).matcher(code);
        int count = 0;
        while (matcher.find()) {
            count++;
        }
        return count;
    }

    private static void methodsAreShort(String all) {
        int from = 0;
        String[] lines = all.split("\n");
        for (int i = 0; i < lines.length; i++) {
            if (lines[i].matches(" {4}( {4})?[\\w ]+(\\[\\])?[\\w ]*\\(.*\\) \\{")) {
                from = i;
            } else if (lines[i].matches(" {4}( {4})?\\}") && from > 0) {
                Due.yes("short: " + lines[from].trim(), i - from <= 60);
                from = 0;
            }
        }
    }
}
