import java.io.IOException;
import java.lang.reflect.Method;
import java.lang.reflect.Modifier;
import java.nio.file.Files;
import java.nio.file.Path;
import java.util.List;
import java.util.Map;
import java.util.Set;
import java.util.TreeMap;
import java.util.TreeSet;
import java.util.regex.Matcher;
import java.util.regex.Pattern;

/** The calls that README.md shows, with the answers that it says they have; none may stand there without one. */
public final class ReadmeTest {
    private static final Check CHECK = new Check("ReadmeTest");
    private static final Pattern SHOWN = Pattern.compile("x\\.(\\w+\\([^()]*\\)); +// (-?\\d+|BAD|NONE|FULL|TURN)(:.*)?");
    private static final Pattern ROW = Pattern.compile("\\| `(\\w+)\\(([^()]*)\\)` \\|.*\\|([^|]*)\\|");
    private static final Map<String, Integer> WORDS = Map.of(
        "BAD", NodeWeights.BAD, "NONE", NodeWeights.NONE, "FULL", NodeWeights.FULL, "TURN", NodeWeights.TURN);
    /** The answers below 0 that the document names for each call. */
    private static final Map<String, Set<String>> REFUSALS = Map.of(
        "rule", Set.of("BAD", "TURN"), "fund", Set.of("BAD", "FULL"), "node", Set.of("BAD", "FULL"),
        "stake", Set.of("BAD", "FULL"), "draw", Set.of("BAD", "FULL", "TURN"), "join", Set.of("BAD", "TURN"),
        "leave", Set.of("BAD", "TURN"), "advance", Set.of("BAD", "FULL"), "about", Set.of("BAD", "NONE"),
        "way", Set.of("BAD", "NONE"));

    private static final Set<String> SHOWN_CALLS = new TreeSet<>();
    private static final Set<String> SHOWN_WORDS = new TreeSet<>();

    public static void main(String[] args) throws IOException {
        List<String> lines = Files.readAllLines(Path.of("README.md"));
        Map<String, Integer> face = face();
        blocks(lines, face);
        CHECK.holds("every call is shown, not only " + SHOWN_CALLS, SHOWN_CALLS.equals(face.keySet()));
        CHECK.holds("every word is shown, not only " + SHOWN_WORDS, SHOWN_WORDS.equals(WORDS.keySet()));
        table(lines, face);
        wordsWithNumbers(String.join(" ", lines));
        CHECK.end();
    }

    /** Each call's name, with the number of its arguments. */
    private static Map<String, Integer> face() {
        Map<String, Integer> face = new TreeMap<>();
        for (Method m : NodeWeights.class.getDeclaredMethods()) {
            if (Modifier.isPublic(m.getModifiers())) face.put(m.getName(), m.getParameterCount());
        }
        return face;
    }

    private static void blocks(List<String> lines, Map<String, Integer> face) {
        boolean inside = false;
        NodeWeights x = null;
        for (int i = 0; i < lines.size(); i++) {
            String line = lines.get(i).strip();
            if (line.startsWith("```")) {
                inside = line.equals("```java");
                x = null;
            } else if (inside && line.equals("NodeWeights x = new NodeWeights();")) {
                x = new NodeWeights();
            } else if (inside) {
                shown("README.md, line " + (i + 1) + ": " + line, SHOWN.matcher(line), x, face);
            }
        }
    }

    private static void shown(String where, Matcher call, NodeWeights x, Map<String, Integer> face) {
        boolean isCall = x != null && call.matches();
        CHECK.holds(where + " is a call with its answer, on an object that was made", isCall);
        if (!isCall) return;
        Call it = Call.of(call.group(1));
        CHECK.due(where + ", its arguments", argumentsOf(it.text()), face.getOrDefault(it.name(), -1));
        String said = call.group(2);
        CHECK.due(where, it.on(x), WORDS.containsKey(said) ? WORDS.get(said) : Integer.parseInt(said));
        SHOWN_CALLS.add(it.name());
        if (WORDS.containsKey(said)) SHOWN_WORDS.add(said);
    }

    private static int argumentsOf(String call) {
        return call.endsWith("()") ? 0 : call.split(",").length;
    }

    /** A row for each call, with as many arguments as it takes, and the answers below 0 that it can have. */
    private static void table(List<String> lines, Map<String, Integer> face) {
        Set<String> rows = new TreeSet<>();
        for (String line : lines) {
            Matcher row = ROW.matcher(line);
            if (!row.matches()) continue;
            String name = row.group(1);
            CHECK.holds("one row for " + name, rows.add(name));
            CHECK.due("arguments of " + name, argumentsOf("(" + row.group(2) + ")"), face.getOrDefault(name, -1));
            for (String word : WORDS.keySet()) {
                boolean due = REFUSALS.getOrDefault(name, Set.of("BAD")).contains(word);
                CHECK.holds(word + " in the row of " + name + ": " + due, row.group(3).contains("`" + word + "`") == due);
            }
        }
        CHECK.holds("a row for every call, not only for " + rows, rows.equals(face.keySet()));
    }

    private static void wordsWithNumbers(String text) {
        for (Map.Entry<String, Integer> word : WORDS.entrySet()) {
            String said = "`" + word.getKey() + "` (" + word.getValue() + ")";
            CHECK.holds("README.md says " + said, text.contains(said));
        }
    }
}
