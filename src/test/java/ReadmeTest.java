import java.lang.reflect.Method;
import java.lang.reflect.Modifier;
import java.nio.charset.StandardCharsets;
import java.nio.file.Files;
import java.nio.file.Path;
import java.util.Arrays;
import java.util.List;
import java.util.Map;
import java.util.Set;
import java.util.TreeMap;
import java.util.TreeSet;
import java.util.regex.Matcher;
import java.util.regex.Pattern;

/** What README.md shows of calls and answers is what the class answers, and its tables have every call. */
public final class ReadmeTest {
    private static final Pattern CALL = Pattern.compile("ship\\.(\\w+)\\(([^)]*)\\); *// ([-\\w]+)(: .*)?");
    private static final Pattern ROW = Pattern.compile("\\| `(\\w+)\\(([^)]*)\\)` \\| .+ \\| (\\w+) \\|");
    private static final String BEGINS = "ShipSways ship = new ShipSways();";

    private ReadmeTest() {
    }

    public static void main(String[] args) throws Exception {
        List<String> lines = Files.readAllLines(Path.of(System.getProperty("readme")), StandardCharsets.UTF_8);
        Set<String> shown = runExamples(lines);
        Set<String> all = publicCalls().keySet();
        Due.yes("examples show all calls, " + all + ": " + shown, shown.equals(all));
        Due.yes("tables have all calls", readTables(lines).equals(all));
        tells(String.join(" ", lines));
        Due.end();
    }

    private static Map<String, Integer> publicCalls() {
        Map<String, Integer> calls = new TreeMap<>();
        for (Method method : ShipSways.class.getDeclaredMethods()) {
            if (Modifier.isPublic(method.getModifiers())) {
                calls.put(method.getName(), method.getParameterCount());
            }
        }
        return calls;
    }

    private static boolean answersTruth(String name) {
        return Arrays.stream(ShipSways.class.getDeclaredMethods())
            .anyMatch(method -> method.getName().equals(name) && method.getReturnType() == boolean.class);
    }

    /** Makes the calls of all java blocks; each block begins with a ship of its own. */
    private static Set<String> runExamples(List<String> lines) {
        Set<String> shown = new TreeSet<>();
        ShipSways ship = null;
        boolean inside = false;
        for (String line : lines) {
            if (line.startsWith("```")) {
                inside = line.equals("```java");
                ship = null;
            } else if (inside && line.equals(BEGINS)) {
                ship = new ShipSways();
            } else if (inside) {
                Matcher call = CALL.matcher(line);
                boolean understood = call.matches() && ship != null;
                Due.yes("a call and its answer: " + line, understood);
                if (understood) {
                    int got = Calls.make(ship, call.group(1), numbers(call.group(2)));
                    Due.is(line, number(call.group(3)), got);
                    Due.yes("true or false, if it answers so: " + line,
                        call.group(3).matches("true|false") == answersTruth(call.group(1)));
                    shown.add(call.group(1));
                }
            }
        }
        return shown;
    }

    /** The calls that the tables have; each is refused as its row says. */
    private static Set<String> readTables(List<String> lines) {
        Set<String> told = new TreeSet<>();
        for (String line : lines) {
            Matcher row = ROW.matcher(line);
            if (line.startsWith("| `")) {
                Due.yes("a row of a table: " + line, row.matches());
            }
            if (row.matches()) {
                String name = row.group(1);
                int takes = row.group(2).isEmpty() ? 0 : row.group(2).split(", ").length;
                Due.is("numbers that " + name + " takes", publicCalls().getOrDefault(name, -1), takes);
                Due.yes(name + " is told once", told.add(name));
                refusedAs(name, takes, row.group(3));
            }
        }
        return told;
    }

    private static void refusedAs(String name, int takes, String answer) {
        int[] numbers = new int[takes];
        Arrays.fill(numbers, Integer.MIN_VALUE);
        ShipSways ship = new ShipSways();
        // A TEXT without room and with a FAULT, for feed and rules, which no number makes refuse.
        for (int i = 0; i < 15; i++) {
            ship.feed(-1, -1, -1, -1, -1);
        }
        if (answer.equals("never")) {
            Due.yes(name + " takes nothing that could be refused", takes == 0);
        } else {
            Due.is(Calls.text(name, numbers) + ", refused", number(answer), Calls.make(ship, name, numbers));
            Due.yes(name + " answers " + answer, answer.equals("false") == answersTruth(name));
        }
    }

    private static void tells(String page) {
        String[] words = {
            "at most 512 calls", "`ShipSways.NONE` (-1)", "`ShipSways.VOID` (-2147483648)", "changes nothing",
            "bash .ci/run", " passed, 0 failed", " failed", "exit code is 0", "exit code is 1"
        };
        for (String word : words) {
            Due.yes("README.md tells: " + word, page.contains(word));
        }
    }

    private static int[] numbers(String inside) {
        if (inside.isEmpty()) {
            return new int[0];
        }
        String[] parts = inside.split(", ");
        int[] numbers = new int[parts.length];
        for (int i = 0; i < parts.length; i++) {
            numbers[i] = number(parts[i].replace("ShipSways.", ""));
        }
        return numbers;
    }

    private static int number(String word) {
        switch (word) {
            case "NONE":
                return ShipSways.NONE;
            case "VOID":
                return ShipSways.VOID;
            case "true":
                return 1;
            case "false":
                return 0;
            default:
                return Integer.decode(word);
        }
    }
}
