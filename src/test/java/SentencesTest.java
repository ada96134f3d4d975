import java.io.IOException;
import java.nio.file.Files;
import java.nio.file.Path;
import java.util.Map;
import java.util.Set;
import java.util.TreeMap;
import java.util.TreeSet;

/**
 * Every sentence of the document, with its boundary cases: the groups hold a test for each, and here the
 * sentences that they quote are compared with those of the document.
 */
public final class SentencesTest {
    private static final Path DOCUMENT = Path.of("../shared/DOC.md");
    /** All error codes of the document, in the order of its promises. */
    private static final String[] ERRORS = {
        "reset -1", "crash -1 -2", "restart -1 -2", "elect -2", "synchronize -1 -2", "accept -1 -2",
        "heartbeat -1 -2", "leader -3", "lastIdentifier -1", "appliedCount -1", "committedCount -2",
        "acceptedEpoch -1", "appendName -1 -7", "create -1 -2 -4 -3 -7", "setData -1 -2 -3 -5 -7",
        "delete -1 -2 -3 -5 -6 -7", "openSession -7", "closeSession -1 -2 -7", "watch -1 -2 -7", "eventCount -1",
        "eventAt -1 -3", "dataAt -1 -2 -3", "versionAt -1 -2 -3", "ownerAt -1 -2 -3", "childCount -1 -3",
        "nodeCount -1", "commonLog -1"
    };

    public static void main(String[] args) throws IOException {
        Sentences sentences = new Sentences();
        Script script = sentences.script();
        DescriptionSentences.all(sentences);
        dueEveryRefusal(script);
        OrderOfErrors.all(sentences);
        ServerSentences.all(sentences);
        ProposalSentences.all(sentences);
        SessionSentences.all(sentences);
        TreeSentences.all(sentences);
        if (Files.exists(DOCUMENT)) {
            compare(script, sentencesOf(Files.readString(DOCUMENT)), sentences.held());
        } else {
            System.out.println("the document is not here: its sentences are not compared with the tests");
        }
        script.finish();
    }

    /** The sentence "A call that returns an error code changes nothing." is tested with every error code. */
    private static void dueEveryRefusal(Script script) {
        for (String row : ERRORS) {
            String[] words = row.split(" ");
            for (int i = 1; i < words.length; i++) {
                if (!script.refusals().contains(words[0] + " " + words[i])) {
                    script.fail("no test of the description has " + words[0] + " answer " + words[i]);
                }
            }
        }
    }

    private static void compare(Script script, Map<String, Set<String>> told, Map<String, Set<String>> held) {
        Set<String> sections = new TreeSet<>(told.keySet());
        sections.addAll(held.keySet());
        for (String section : sections) {
            Set<String> untested = new TreeSet<>(told.getOrDefault(section, Set.of()));
            untested.removeAll(held.getOrDefault(section, Set.of()));
            untested.forEach(sentence -> script.fail("no test for " + section + ": " + sentence));
            Set<String> unknown = new TreeSet<>(held.getOrDefault(section, Set.of()));
            unknown.removeAll(told.getOrDefault(section, Set.of()));
            unknown.forEach(sentence -> script.fail("not in the document, " + section + ": " + sentence));
        }
    }

    private static Map<String, Set<String>> sentencesOf(String document) {
        Map<String, Set<String>> told = new TreeMap<>();
        String section = "";
        for (String line : document.lines().toList()) {
            String text = line.strip().replaceAll(" +", " ");
            if (text.startsWith("## ")) {
                section = text.substring(3).replaceAll(": .*", "");
            } else if (text.startsWith("Examples: ")) {
                section = "Examples";
            } else if (text.startsWith("The constants:")) {
                section = "Constants";
            } else if (isTested(section) && !text.isEmpty()) {
                addSentences(told.computeIfAbsent(section, key -> new TreeSet<>()), text);
            }
        }
        return told;
    }

    /** The face and the examples have tests of their own; what the document does not promise has none. */
    private static boolean isTested(String section) {
        return section.matches("What it is|Description|Constants|Promise \\d+");
    }

    private static void addSentences(Set<String> sentences, String line) {
        if (line.startsWith("`") || line.startsWith("----") || line.startsWith("The constructor and the methods")
                || line.startsWith("A simulator of")) {
            return;
        }
        if (line.startsWith("- `")) {
            sentences.add(line.substring(3).replaceFirst("`", ""));
            return;
        }
        String end = line.startsWith("Returns ") && line.contains("; ") ? "; " : "(?<=\\.|\\.\\)) (?=[A-Z(])";
        for (String sentence : line.split(end)) {
            sentences.add(sentence.replaceFirst("\\.$", ""));
        }
    }
}
