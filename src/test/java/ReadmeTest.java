import java.io.IOException;
import java.nio.file.Files;
import java.nio.file.Path;
import java.util.ArrayList;
import java.util.List;
import java.util.Map;
import java.util.Set;
import java.util.TreeSet;
import java.util.regex.Matcher;
import java.util.regex.Pattern;

/** The examples of README.md, run as one run: each call answers as the row says; no call of the face is missing there. */
public final class ReadmeTest {
    private static final Pattern NEW = Pattern.compile("CabTears x = new CabTears\\(\\);");
    private static final Pattern WRITTEN =
        Pattern.compile("for \\(char letter : \"([^\"]+)\"\\.toCharArray\\(\\)\\) x\\.write\\(letter\\);");
    private static final Pattern ASKED = Pattern.compile("x\\.(\\w+\\([0-9, ]*\\)); +// (\\d+|BAD|NO|FULL|NONE)\\b.*");
    private static final Pattern CALL = Pattern.compile("\\| `(\\w+)\\(.*");
    private static final Map<String, Integer> WORDS = Map.of("BAD", -1, "NO", -2, "FULL", -3, "NONE", -4);

    private static final Set<String> asked = new TreeSet<>();
    private static Told told = null;

    public static void main(String[] args) throws IOException {
        List<String> lines = Files.readAllLines(Path.of("README.md"));
        Check.test("README.md: the examples answer so", () -> examples(lines));
        Check.test("README.md: each call has an example and a row", () -> eachCall(lines));
        Check.test("README.md: the words", () -> words(lines));
        Check.test("README.md: every test has a row", () -> tests(lines));
        Check.end();
    }

    private static void examples(List<String> lines) {
        boolean inside = false;
        int answers = 0;
        for (String line : lines) {
            if (line.startsWith("```")) {
                inside = line.equals("```java");
            } else if (inside) {
                answers += example(line);
            }
        }
        Check.due("README.md has examples", answers > 50 ? 1 : 0, 1);
    }

    private static int example(String line) {
        Matcher written = WRITTEN.matcher(line);
        Matcher answered = ASKED.matcher(line);
        if (NEW.matcher(line).matches()) {
            told = new Told();
        } else if (written.matches()) {
            told.more(written.group(1));
        } else if (answered.matches()) {
            String word = answered.group(2);
            int want = WORDS.containsKey(word) ? WORDS.get(word) : Integer.parseInt(word);
            told.due(want, answered.group(1));
            asked.add(answered.group(1).replaceAll("\\(.*", ""));
            return 1;
        } else {
            Check.due("a row that can't be read: " + line, 0, 1);
        }
        return 0;
    }

    private static void eachCall(List<String> lines) {
        Set<String> rows = new TreeSet<>();
        for (String line : lines) {
            Matcher m = CALL.matcher(line);
            if (m.matches()) rows.add(m.group(1));
        }
        Set<String> face = Told.calls();
        Check.due("rows of " + rows + ", calls " + face, rows.equals(face) ? 1 : 0, 1);
        Check.due("examples of " + asked + ", calls " + face, asked.equals(face) ? 1 : 0, 1);
    }

    private static void words(List<String> lines) {
        List<String> order = new ArrayList<>();
        for (String line : lines) {
            Matcher m = Pattern.compile("\\| `([A-Z]+)` \\| (-\\d) \\|.*").matcher(line);
            if (!m.matches()) continue;
            order.add(m.group(1));
            Check.due(m.group(1), Integer.parseInt(m.group(2)), WORDS.get(m.group(1)));
        }
        Check.due("the order is " + order, order.equals(List.of("BAD", "NO", "NONE", "FULL")) ? 1 : 0, 1);
    }

    private static void tests(List<String> lines) {
        Set<String> there = new TreeSet<>();
        for (String file : Path.of("src/test/java").toFile().list()) {
            if (file.endsWith("Test.java")) there.add(file.substring(0, file.length() - 5));
        }
        Set<String> named = new TreeSet<>();
        Matcher m = Pattern.compile("`(\\w+Test)`").matcher(String.join("\n", lines));
        while (m.find()) named.add(m.group(1));
        Check.due("README.md names " + named + ", there are " + there, named.equals(there) ? 1 : 0, 1);
    }
}
