import java.lang.reflect.Field;
import java.lang.reflect.Method;
import java.lang.reflect.Modifier;
import java.nio.charset.StandardCharsets;
import java.nio.file.Files;
import java.nio.file.Path;
import java.util.HashMap;
import java.util.HashSet;
import java.util.Map;
import java.util.Set;
import java.util.regex.Matcher;
import java.util.regex.Pattern;

/** What of LANGUAGE.md a look at the source can tell. */
public final class LanguageTest {
    private LanguageTest() {
    }

    public static void main(String[] args) throws Exception {
        String all = Files.readString(Path.of(System.getProperty("source")), StandardCharsets.UTF_8);
        String code = all.replaceAll("(?s)/\\*.*?\\*/", "").replaceAll("//[^\n]*", "").replaceAll("\"[^\"\n]*\"", "\"\"");
        Due.yes("plain signs alone", all.chars().allMatch(c -> c == '\n' || c >= 32 && c < 127));
        String[] words = {
            "throw", "throws", "try", "catch", "finally", "synchronized", "assert", "import", "package", "volatile", "native",
            "double", "float", "Exact", "toString", "hashCode", "protected", "Thread", "Random", "Object", "->", "::"
        };
        for (String word : words) {
            Pattern pattern = Pattern.compile(word.matches("\\w+") && !word.equals("Exact") ? "\\b" + word + "\\b" : word);
            Due.no("uses " + word, pattern.matcher(code).find());
        }
        // Rows and parts are made with the ship: no call makes one.
        int made = code.indexOf("public ShipSways() {");
        int until = code.indexOf("\n    }", made);
        String calls = code.substring(0, made) + code.substring(until);
        for (String line : calls.split("\n")) {
            if (line.matches(".*\\bnew\\b.*")) {
                Due.yes(line.trim() + " is a row's beginning", line.matches(" {8}final int\\[\\] \\w+ = new int\\[.*\\];"));
            }
        }
        Due.yes("some twelve classes", occurrences(code, "\\bclass\\b") <= 12);
        methodsAreShort(all);
        libraryIsListed(code);
        membersAreFew(ShipSways.class);
        for (Class<?> inside : ShipSways.class.getDeclaredClasses()) {
            Due.yes("static: " + inside, Modifier.isStatic(inside.getModifiers()));
            Due.no("not seen outside: " + inside, Modifier.isPublic(inside.getModifiers()) || Modifier.isProtected(inside.getModifiers()));
            membersAreFew(inside);
        }
        callsAreShallow(code);
        Due.end();
    }

    private static int occurrences(String code, String pattern) {
        Matcher matcher = Pattern.compile(pattern).matcher(code);
        int count = 0;
        while (matcher.find()) {
            count++;
        }
        return count;
    }

    private static void methodsAreShort(String all) {
        int from = 0;
        String[] lines = all.split("\n");
        for (int i = 0; i < lines.length; i++) {
            if (lines[i].matches(" {4}( {4})?[\\w ]+(\\[\\])?[\\w ]*\\(.*\\) \\{")) {
                from = i;
            } else if (lines[i].matches(" {4}( {4})?\\}") && from > 0) {
                Due.yes("short: " + lines[from].trim(), i - from <= 60);
                from = 0;
            }
        }
    }

    private static void libraryIsListed(String code) {
        Set<String> listed = Set.of("Math.abs", "Math.max", "Math.min", "Math.floorDiv", "Math.floorMod", "Integer.bitCount", "System.arraycopy");
        Matcher matcher = Pattern.compile("\\b(Math|Integer|Long|System|Arrays|Character|Boolean|StringBuilder)\\b(\\.\\w+)?").matcher(code);
        while (matcher.find()) {
            Due.yes("listed: " + matcher.group(), listed.contains(matcher.group()));
        }
    }

    private static void membersAreFew(Class<?> type) {
        int fields = 0;
        for (Field field : type.getDeclaredFields()) {
            if (Modifier.isStatic(field.getModifiers())) {
                Due.yes("final: " + field, Modifier.isFinal(field.getModifiers()));
            } else {
                fields++;
            }
        }
        Due.yes("some twenty fields of " + type, fields <= 20);
        for (Method method : type.getDeclaredMethods()) {
            Due.yes("seven parameters: " + method, method.getParameterCount() <= 7);
        }
    }

    /** Methods of one name count as one that does what each of them does, so it is never told too shallow. */
    private static void callsAreShallow(String code) {
        Map<String, String> bodies = new HashMap<>();
        int found = 0;
        Matcher matcher = Pattern.compile("(?s)\\n( {4}(?: {4})?)(?! )[\\w\\[\\] ]*?(\\w+)\\([^()]*\\) \\{\\n(.*?)\\n\\1\\}").matcher(code);
        while (matcher.find()) {
            bodies.merge(matcher.group(2), matcher.group(3), String::concat);
            found++;
        }
        int declared = ShipSways.class.getDeclaredMethods().length + ShipSways.class.getDeclaredConstructors().length;
        for (Class<?> inside : ShipSways.class.getDeclaredClasses()) {
            declared += inside.getDeclaredMethods().length;
        }
        Due.is("methods found", declared, found);
        for (String name : bodies.keySet()) {
            Due.yes("eight deep: " + name, depthOf(name, bodies, new HashSet<>()) <= 8);
        }
    }

    private static int depthOf(String name, Map<String, String> bodies, Set<String> open) {
        if (!open.add(name)) {
            Due.no(name + " comes back to itself", true);
            return 0;
        }
        int deepest = 0;
        Matcher matcher = Pattern.compile("\\b(\\w+)\\(").matcher(bodies.get(name));
        while (matcher.find()) {
            if (bodies.containsKey(matcher.group(1))) {
                deepest = Math.max(deepest, depthOf(matcher.group(1), bodies, open));
            }
        }
        open.remove(name);
        return deepest + 1;
    }
}
