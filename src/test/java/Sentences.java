import java.util.ArrayList;
import java.util.List;
import java.util.Map;
import java.util.Set;
import java.util.TreeMap;
import java.util.TreeSet;
import java.util.function.IntFunction;

/** Runs tests that each belong to one sentence of the document, and remembers which sentences had one. */
final class Sentences {
    /** The first transactions of a new service whose leader's log is then full; the path buffer has /0. */
    static final String FULL_LOG = fullLog(1, 40);
    /** As FULL_LOG, but with room for one transaction. */
    static final String LOG_OF_39 = fullLog(1, 39);
    /** Twelve nodes of no owner, /0 to /5 and /0/0 to /0/5, by the transactions 1001 to 1012. */
    static final String TWELVE_NODES = nodes(1, 12);
    static final String ELEVEN_NODES = nodes(1, 11);

    private static final int FEWEST_SERVERS = 3;
    private static final int MOST_SERVERS = 5;
    private static final int MOST_SESSIONS = 6;

    private final Script script = new Script();
    private final Map<String, Set<String>> held = new TreeMap<>();
    private String section = "";

    Script script() {
        return script;
    }

    /** The sentences with a test, by sections of the document. */
    Map<String, Set<String>> held() {
        return held;
    }

    void section(String name) {
        section = name;
        held.putIfAbsent(name, new TreeSet<>());
    }

    /** Runs the calls on one new object. */
    void hold(String sentence, String... calls) {
        script.run(title(sentence), calls);
    }

    /** Whether two objects can't be told apart after these calls. */
    void holdAlike(String sentence, String one, String other) {
        script.runAlike(title(sentence), one, other);
    }

    /**
     * Runs the calls once for each number of servers: $n is that number, $l the number of the last server, $k
     * that of the last but one. "outside crash(@)" stands for the call with all numbers that no server has.
     */
    void holdForServers(String sentence, String... calls) {
        for (int servers = FEWEST_SERVERS; servers <= MOST_SERVERS; servers++) {
            String text = "reset($n) = 3;" + withOutside(String.join(";", calls), servers);
            script.run(title(sentence) + " (" + servers + " servers)", fill(text, servers));
        }
    }

    /** As holdForServers, for each number of sessions that are open before the calls. */
    void holdForSessions(String sentence, String... calls) {
        for (int sessions = 1; sessions <= MOST_SESSIONS; sessions++) {
            String text = each(0, sessions - 1, i -> "openSession() = " + i)
                    + withOutside(String.join(";", calls), sessions);
            script.run(title(sentence) + " (" + sessions + " sessions)", fill(text, sessions));
        }
    }

    static String each(int first, int last, IntFunction<String> text) {
        StringBuilder all = new StringBuilder();
        for (int i = first; i <= last; i++) {
            all.append(text.apply(i)).append(';');
        }
        return all.toString();
    }

    /** A proposal of an existing path /0 for each of the counters. */
    static String sets(int epoch, int first, int last) {
        return each(first, last, i -> "setData(" + i + ", ANY_VERSION) = " + (1000 * epoch + i));
    }

    static String accepts(int server, int epoch, int first, int last) {
        return each(first, last, i -> "accept(" + server + ") = " + (1000 * epoch + i));
    }

    static String fullLog(int epoch, int last) {
        return "/0; create(1, NONE) = " + (1000 * epoch + 1) + ";" + sets(epoch, 2, last);
    }

    static String nodes(int epoch, int count) {
        return each(0, count - 1,
                i -> (i < 6 ? "/" : "/0/") + i % 6 + "; create(" + i + ", NONE) = " + (1000 * epoch + 1 + i));
    }

    private static String fill(String text, int number) {
        return text.replace("$n", "" + number).replace("$l", "" + (number - 1)).replace("$k", "" + (number - 2));
    }

    private static String withOutside(String text, int number) {
        List<String> statements = new ArrayList<>();
        for (String statement : text.split(";")) {
            String call = statement.strip();
            if (call.startsWith("outside ")) {
                for (String argument : List.of("-1", "$n", "NONE", "ANY_VERSION", "MIN", "MAX", "" + (number + 256))) {
                    statements.add(call.substring(8).replace("@", argument) + " = INVALID_ARGUMENT");
                }
            } else {
                statements.add(call);
            }
        }
        return String.join(";", statements);
    }

    private String title(String sentence) {
        held.get(section).add(sentence);
        return section + ": " + sentence;
    }
}
