import java.io.File;
import java.io.IOException;
import java.lang.reflect.Method;
import java.nio.file.Files;
import java.nio.file.Path;
import java.util.HashMap;
import java.util.HashSet;
import java.util.List;
import java.util.Map;
import java.util.Set;
import java.util.regex.Matcher;
import java.util.regex.Pattern;

/** What README.md shows of calls is what the class answers (and the model); no call and no test is left out there. */
public final class ReadmeTest {
    private static final Report REPORT = new Report();
    private static final Pattern MADE = Pattern.compile("ShopRules (\\w+) = new ShopRules\\((-?\\d+)\\);(\\s+// .+)?");
    private static final Pattern CALLED = Pattern.compile(
        "(\\w+)\\.(\\w+)\\(([-\\d, ]*)\\);\\s+// (-?\\d+|NOTHING|ArithmeticException): .+");

    private final Map<String, Real> reals = new HashMap<>();
    private final Map<String, Model> models = new HashMap<>();
    private final Set<String> shown = new HashSet<>();

    private void read(String line) {
        Matcher made = MADE.matcher(line);
        Matcher called = CALLED.matcher(line);
        if (made.matches()) {
            int machines = Integer.parseInt(made.group(2));
            reals.put(made.group(1), new Real(machines));
            models.put(made.group(1), new Model(machines));
        } else if (called.matches() && reals.containsKey(called.group(1))) {
            String call = called.group(2) + (" " + called.group(3).replace(",", "")).stripTrailing();
            shown.add(called.group(2));
            String told = called.group(4);
            REPORT.due("README.md", call, Words.answer(reals.get(called.group(1)), call), told);
            REPORT.due("README.md, the model", call, Words.answer(models.get(called.group(1)), call), told);
        } else if (!line.isBlank()) {
            REPORT.due("README.md", line, "a line of another form", "a call with its answer");
        }
    }

    private void readBlocks(List<String> lines) {
        boolean isInside = false;
        for (String line : lines) {
            if (line.startsWith("```")) {
                isInside = line.equals("```java");
            } else if (isInside) {
                read(line);
            }
        }
    }

    private void dueAllShown() {
        for (Method method : Face.class.getMethods()) {
            String name = method.getName();
            REPORT.due("README.md", name + "()", shown.contains(name) ? "shown" : "left out", "shown");
        }
    }

    private static void dueAllTests(String text) {
        String[] files = new File("src/test/java").list();
        for (String file : files == null ? new String[0] : files) {
            String item = "- `" + file.replace(".java", "") + "`:";
            REPORT.due("README.md", file, text.contains(item) ? "told" : "left out", "told");
        }
    }

    public static void main(String[] args) throws IOException {
        Path path = Path.of("README.md");
        ReadmeTest test = new ReadmeTest();
        test.readBlocks(Files.readAllLines(path));
        test.dueAllShown();
        dueAllTests(Files.readString(path));
        REPORT.end();
    }
}
