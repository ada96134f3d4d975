import java.io.IOException;
import java.lang.reflect.Method;
import java.lang.reflect.Modifier;
import java.nio.file.Files;
import java.nio.file.Path;
import java.util.ArrayList;
import java.util.List;
import java.util.Set;
import java.util.TreeSet;
import java.util.regex.Matcher;
import java.util.regex.Pattern;

/** The calls that README.md shows have the answers that it gives, and every method is among them. */
public final class ReadmeTest {
    private static final Path README = Path.of("README.md");
    private static final Pattern BLOCK = Pattern.compile("^```java\n(.*?)^```$", Pattern.DOTALL | Pattern.MULTILINE);
    private static final String NEW_OBJECT = "CoordinationService service = new CoordinationService();";
    private static final Pattern CALL = Pattern.compile("service\\.((\\w+)\\(.*\\)); *// (-?\\d+)(?:, ([A-Z_]+))?(?::.*)?");
    private static final Pattern ROW = Pattern.compile("^\\| (-\\d) +\\| `(\\w+)` +\\|", Pattern.MULTILINE);
    private static final Pattern NAMED = Pattern.compile("`([A-Z_]+)`\\s\\((-?\\d)\\)");
    private static final int CONSTANTS = 12;

    private static final Script SCRIPT = new Script();
    private static final Set<String> SHOWN = new TreeSet<>();

    public static void main(String[] args) throws IOException {
        String readme = Files.readString(README);
        Matcher block = BLOCK.matcher(readme);
        while (block.find()) {
            runBlock(block.group(1).lines().toList());
        }
        for (Method method : CoordinationService.class.getDeclaredMethods()) {
            if (Modifier.isPublic(method.getModifiers()) && !SHOWN.contains(method.getName())) {
                SCRIPT.fail("README.md does not show " + method.getName());
            }
        }
        dueConstants(readme);
        dueCommand(readme);
        SCRIPT.finish();
    }

    private static void runBlock(List<String> lines) {
        if (!lines.get(0).equals(NEW_OBJECT)) {
            SCRIPT.fail("a block that begins without a new object: " + lines.get(0));
            return;
        }
        List<String> statements = new ArrayList<>();
        for (String line : lines.subList(1, lines.size())) {
            Matcher call = CALL.matcher(line);
            if (!call.matches()) {
                SCRIPT.fail("not a call with its answer: " + line);
                continue;
            }
            SHOWN.add(call.group(2));
            statements.add(call.group(1).replace("CoordinationService.", "") + " = " + call.group(3));
            if (call.group(4) != null) {
                dueConstant(call.group(4), call.group(3));
            }
        }
        SCRIPT.run("README.md", statements.toArray(new String[0]));
    }

    private static void dueConstants(String readme) {
        Set<String> named = new TreeSet<>();
        for (Matcher row = ROW.matcher(readme); row.find();) {
            named.add(row.group(2));
            dueConstant(row.group(2), row.group(1));
        }
        for (Matcher word = NAMED.matcher(readme); word.find();) {
            named.add(word.group(1));
            dueConstant(word.group(1), word.group(2));
        }
        if (named.size() != CONSTANTS) {
            SCRIPT.fail("README.md gives the values of these constants only: " + named);
        }
    }

    private static void dueConstant(String name, String value) {
        try {
            int due = CoordinationService.class.getField(name).getInt(null);
            if (due != Integer.parseInt(value)) {
                SCRIPT.fail("README.md has " + name + " as " + value + ", due is " + due);
            }
        } catch (ReflectiveOperationException e) {
            SCRIPT.fail("README.md has a constant that is not there: " + name);
        }
    }

    private static void dueCommand(String readme) {
        if (!readme.contains("\n    .ci/run\n") || !Files.isExecutable(Path.of(".ci/run"))) {
            SCRIPT.fail("the command that runs the tests is not as README.md says");
        }
    }
}
