import java.io.IOException;
import java.nio.file.Files;
import java.nio.file.Path;

/** The five examples of the document, as it writes them. */
public final class ExamplesTest {
    private static final Path DOCUMENT = Path.of("../shared/DOC.md");
    private static final int EXAMPLES = 5;

    public static void main(String[] args) throws IOException {
        Script script = new Script();
        script.run("example 1", """
                elect() = 2; appendName(0) = 1; create(5, -8) = 1001;
                committedCount() = 0; accept(0) = 1001; committedCount() = 1; dataAt(0) = -3; heartbeat(0) = 1;
                dataAt(0) = 5
                """);
        script.run("example 2", """
                elect() = 2; openSession() = 0; appendName(1) = 1; watch(2, 0) = 1; create(5, -8) = 1001;
                accept(1) = 1001; eventCount(0) = 1; eventAt(0, 0) = 10010
                """);
        script.run("example 3", """
                elect() = 2; appendName(0) = 1; create(1, -8) = 1001; crash(2) = 2;
                elect() = 1; lastIdentifier(2) = 1001; restart(2) = 3; synchronize(2) = 100; lastIdentifier(2) = 0
                """);
        script.run("example 4", """
                create(1, -8) = -2; elect() = 2; appendName(0) = 1; create(1, -8) = 1001;
                create(1, -8) = -4; setData(2, 1) = -5; delete(0) = 1002
                """);
        script.run("example 5", """
                elect() = 2; openSession() = 0; appendName(0) = 1; create(3, 0) = 1001;
                closeSession(0) = 1002; create(4, 0) = -2; accept(0) = 1001; accept(0) = 1002; nodeCount(2) = 0
                """);
        if (Files.exists(DOCUMENT)) {
            runExamplesOf(Files.readString(DOCUMENT), script);
        }
        script.finish();
    }

    /** An example begins with its number and a title that ends with a colon. */
    private static void runExamplesOf(String document, Script script) {
        int begin = document.indexOf("\nExamples: ");
        int end = document.indexOf("\nThe constants:");
        if (begin < 0 || end < begin) {
            script.fail("the document has no examples");
            return;
        }
        String[] examples = document.substring(begin, end).split("\n\\d+\\. ");
        if (examples.length != EXAMPLES + 1) {
            script.fail("the document has another number of examples: " + (examples.length - 1));
        }
        for (int i = 1; i < examples.length; i++) {
            String calls = examples[i].substring(examples[i].indexOf(": ") + 2).strip();
            script.run("example " + i + " of the document", calls.replaceFirst("\\.$", ""));
        }
    }
}
