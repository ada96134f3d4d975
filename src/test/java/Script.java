import java.util.ArrayList;
import java.util.LinkedHashSet;
import java.util.List;
import java.util.Set;
import java.util.TreeSet;

/**
 * Runs calls on new objects that are written as the document writes them, "elect() = 2; leader() = 2",
 * with names of constants where numbers may stand (MIN and MAX are the ends of int), and prints every call
 * whose answer is not as due. "/0/5" stands for the calls that put this path into the buffer, "/" for the
 * call that empties it. After each call that is refused, and each that only reads, the object is compared
 * with one that has not had this call: no difference may be seen.
 */
final class Script {
    private static final Set<String> READERS = Set.of(
            "leader", "lastIdentifier", "appliedCount", "committedCount", "acceptedEpoch", "eventCount", "eventAt",
            "dataAt", "versionAt", "ownerAt", "childCount", "nodeCount", "commonLog");
    private static final int CALLS_OF_AN_OBJECT = 512;

    private record Call(String name, int[] arguments) {
        int on(CoordinationService service) {
            return Calls.answer(service, name, arguments);
        }
    }

    /** What has come of one new object. */
    private static final class Run {
        final String title;
        final CoordinationService service = new CoordinationService();
        final List<Call> changes = new ArrayList<>();
        final Set<List<Integer>> paths = new LinkedHashSet<>();
        List<Integer> path = List.of();
        int calls;

        Run(String title) {
            this.title = title;
        }

        void keep(Call call) {
            changes.add(call);
            switch (call.name()) {
                case "reset", "clearPath" -> path = List.of();
                case "appendName" -> {
                    path = new ArrayList<>(path);
                    path.add(call.arguments()[0]);
                }
                case "create", "watch" -> paths.add(path);
                default -> { }
            }
        }
    }

    private final Set<String> refusals = new TreeSet<>();
    private int calls;
    private int wrong;

    /** Runs the calls, one after the other, on one new object. */
    void run(String title, String... parts) {
        runAll(title, String.join(";", parts));
    }

    /** Runs the calls of both texts, each on a new object, and then looks for a difference between the two. */
    void runAlike(String title, String one, String other) {
        Run first = runAll(title, one);
        Run second = runAll(title, other);
        first.paths.addAll(second.paths);
        dueAlike(title, first.changes, second.changes, List.copyOf(first.paths));
    }

    /** The calls that have been refused so far, each with its error code: "crash -2". */
    Set<String> refusals() {
        return refusals;
    }

    /** Counts a fault that another test has found. */
    void fail(String what) {
        wrong++;
        System.out.println(what);
    }

    /** Ends the program, with exit code 1 if an answer was wrong. */
    void finish() {
        System.out.println(calls + " calls, " + wrong + " answers not as due");
        if (wrong != 0 || calls == 0) {
            System.exit(1);
        }
    }

    private Run runAll(String title, String text) {
        Run run = new Run(title);
        for (String part : text.split(";")) {
            String statement = part.strip();
            if (statement.startsWith("/")) {
                goTo(run, statement);
            } else if (!statement.isEmpty()) {
                runStatement(run, statement);
            }
        }
        return run;
    }

    private void goTo(Run run, String path) {
        runStatement(run, "clearPath() = " + run.path.size());
        int length = 0;
        for (String name : path.substring(1).split("/")) {
            if (!name.isEmpty()) {
                length++;
                runStatement(run, "appendName(" + name + ") = " + length);
            }
        }
    }

    private void runStatement(Run run, String statement) {
        int equals = statement.lastIndexOf('=');
        Call call = callOf(statement.substring(0, equals).strip());
        int due = number(statement.substring(equals + 1).strip());
        int got = call.on(run.service);
        calls++;
        run.calls++;
        if (run.calls > CALLS_OF_AN_OBJECT) {
            throw new IllegalStateException(run.title + ": too many calls");
        }
        if (got != due) {
            fail(run.title + ": " + statement + ", but answered " + got);
        }
        boolean refused = due <= CoordinationService.INVALID_ARGUMENT && due >= CoordinationService.CAPACITY_EXCEEDED;
        if (refused) {
            refusals.add(call.name() + " " + due);
        }
        if (refused || READERS.contains(call.name())) {
            dueUnchanged(run, call, statement);
        } else {
            run.keep(call);
        }
    }

    private void dueUnchanged(Run run, Call call, String statement) {
        List<Call> longer = new ArrayList<>(run.changes);
        longer.add(call);
        Set<List<Integer>> paths = new LinkedHashSet<>(run.paths);
        paths.add(run.path);
        dueAlike(run.title + ": " + statement + ", but something has changed", run.changes, longer, List.copyOf(paths));
    }

    private void dueAlike(String title, List<Call> one, List<Call> other, List<List<Integer>> paths) {
        for (int view = 0; view < Probe.VIEWS; view++) {
            String seen = look(one, view, paths);
            String seenOfOther = look(other, view, paths);
            if (!seen.equals(seenOfOther)) {
                fail(title + ": " + difference(seen, seenOfOther));
                return;
            }
        }
    }

    private static String look(List<Call> made, int view, List<List<Integer>> paths) {
        CoordinationService service = new CoordinationService();
        for (Call call : made) {
            call.on(service);
        }
        Probe probe = new Probe(service, paths);
        String seen = probe.look(view);
        if (made.size() + probe.calls() > CALLS_OF_AN_OBJECT) {
            throw new IllegalStateException("a look of too many calls: " + made.size() + " and " + probe.calls());
        }
        return seen;
    }

    private static String difference(String one, String other) {
        String[] rows = one.split("\n");
        String[] others = other.split("\n");
        for (int i = 0; i < Math.min(rows.length, others.length); i++) {
            if (!rows[i].equals(others[i])) {
                return rows[i] + " or " + others[i];
            }
        }
        return rows.length + " or " + others.length + " answers";
    }

    private static Call callOf(String text) {
        int open = text.indexOf('(');
        List<Integer> arguments = new ArrayList<>();
        for (String argument : text.substring(open + 1, text.lastIndexOf(')')).split(",")) {
            if (!argument.isBlank()) {
                arguments.add(number(argument.strip()));
            }
        }
        return new Call(text.substring(0, open), arguments.stream().mapToInt(i -> i).toArray());
    }

    private static int number(String text) {
        if (!Character.isLetter(text.charAt(0))) {
            return Integer.parseInt(text);
        }
        if (text.equals("MIN") || text.equals("MAX")) {
            return text.equals("MIN") ? Integer.MIN_VALUE : Integer.MAX_VALUE;
        }
        try {
            return CoordinationService.class.getField(text).getInt(null);
        } catch (ReflectiveOperationException e) {
            throw new IllegalStateException(text, e);
        }
    }

    /** Clears a path of so many names and sets another one. */
    static String path(int lengthBefore, int... names) {
        StringBuilder text = new StringBuilder("clearPath() = " + lengthBefore + ";");
        for (int i = 0; i < names.length; i++) {
            text.append("appendName(").append(names[i]).append(") = ").append(i + 1).append(';');
        }
        return text.toString();
    }
}
