import java.lang.reflect.Method;
import java.lang.reflect.Modifier;
import java.nio.file.Files;
import java.nio.file.Path;
import java.util.Set;
import java.util.TreeSet;
import java.util.regex.Matcher;
import java.util.regex.Pattern;

/** What README.md says of the class: its example and its table of calls. */
public final class ReadmeTest {
    private static final Check CHECK = new Check("ReadmeTest");
    private static final Pattern TEXT = Pattern.compile("String text = \"([^\"]*)\";");
    private static final Pattern CALL =
            Pattern.compile("(?m)^x\\.(\\w+\\([^)]*\\)); +// (-?\\d+|BAD|NO|FULL|NONE): ");
    private static final Pattern ROW = Pattern.compile("(?m)^\\| `(\\w+)\\(([^)]*)\\)` \\|");

    public static void main(String[] args) throws Exception {
        String readme = Files.readString(Path.of("README.md"));
        example(readme);
        table(readme);
        CHECK.end();
    }

    private static void example(String readme) {
        int from = readme.indexOf("```java");
        int to = readme.indexOf("```", from + 3);
        String code = from >= 0 && to >= 0 ? readme.substring(from, to) : "";
        Matcher text = TEXT.matcher(code);
        CHECK.holds("the example tells a text", text.find());
        Run run = new Run(CHECK, "README.md").type(text.group(1));
        Matcher call = CALL.matcher(code);
        int calls = 0;
        while (call.find()) {
            run.calls(call.group(1) + " = " + call.group(2));
            calls++;
        }
        CHECK.due("calls of the example that tell an answer", calls,
                (int) code.lines().filter(line -> line.startsWith("x.")).count());
        CHECK.holds("the example has calls", calls > 0);
    }

    private static void table(String readme) {
        Set<String> face = new TreeSet<>();
        for (Method m : BundledLinks.class.getDeclaredMethods()) {
            if (Modifier.isPublic(m.getModifiers())) {
                face.add(m.getName() + " " + m.getParameterCount());
            }
        }
        Set<String> rows = new TreeSet<>();
        Matcher row = ROW.matcher(readme);
        while (row.find()) {
            rows.add(row.group(1) + " " + (row.group(2).isBlank() ? 0 : row.group(2).split(",").length));
        }
        CHECK.same("calls of the table", rows.toString(), face.toString());
    }
}
