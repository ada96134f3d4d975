import java.util.ArrayList;
import java.util.Arrays;
import java.util.List;
import java.util.Random;
import java.util.TreeMap;

/**
 * Long runs of calls whose answers are compared with those of the model. The seeds are fixed, so that
 * every run of the test is the same.
 */
public final class ModelTest {
    private static final int RUNS = 4000;
    private static final int CALLS = 512;
    /** An object may answer what it likes after 512 calls, but this one goes on, and must not fail. */
    private static final int LONG_RUNS = 20;
    private static final int CALLS_OF_A_LONG_RUN = 10_000;
    private static final String[] READERS = {
        "leader", "lastIdentifier", "appliedCount", "committedCount", "acceptedEpoch", "eventCount", "eventAt",
        "dataAt", "versionAt", "ownerAt", "childCount", "nodeCount", "commonLog"
    };

    private final Random random;
    private final int run;
    private final CoordinationService service = new CoordinationService();
    private final Model model = new Model();
    private final List<String> told = new ArrayList<>();
    private final TreeMap<String, Integer> answers;
    /** How often each kind of call comes in this run; runs differ in what they are busy with. */
    private final int[] weights = new int[16];
    private final int limit;
    private int servers = 3;
    private int calls;
    private boolean right = true;

    private ModelTest(int run, TreeMap<String, Integer> answers) {
        this.run = run;
        this.answers = answers;
        limit = run < LONG_RUNS ? CALLS_OF_A_LONG_RUN : CALLS;
        random = new Random(run);
        int[] usual = {1, 10, 20, 20, 20, 80, 40, 60, 20, 80, 40, 20, 8, 4, 40, 80};
        int[] strengths = {0, 1, 2, 2, 4, 8};
        for (int i = 0; i < weights.length; i++) {
            weights[i] = usual[i] * strengths[random.nextInt(strengths.length)];
        }
        // Without these a run comes to nothing.
        weights[3] = Math.max(20, weights[3]);
        weights[7] = Math.max(40, weights[7]);
    }

    public static void main(String[] args) {
        int wrong = 0;
        TreeMap<String, Integer> answers = new TreeMap<>();
        for (int run = 0; run < RUNS && wrong < 5; run++) {
            if (!new ModelTest(run, answers).isAsDue()) {
                wrong++;
            }
        }
        System.out.println(RUNS + " runs, " + wrong + " not as due");
        boolean covered = coversEveryError(answers);
        if (args.length > 0) {
            System.out.println(answers);
        }
        if (wrong != 0 || !covered) {
            System.exit(1);
        }
    }

    /** The comparison says little about an answer that never came: every error must have come. */
    private static boolean coversEveryError(TreeMap<String, Integer> answers) {
        boolean covered = true;
        String[] errors = {
            "reset:-1", "crash:-1 -2", "restart:-1 -2", "elect:-2", "synchronize:-1 -2", "accept:-1 -2",
            "heartbeat:-1 -2", "leader:-3", "lastIdentifier:-1", "appliedCount:-1", "committedCount:-2",
            "acceptedEpoch:-1", "appendName:-1 -7", "create:-1 -2 -4 -3 -7", "setData:-1 -2 -3 -5 -7",
            "delete:-1 -2 -3 -5 -6 -7", "openSession:-7", "closeSession:-1 -2 -7", "watch:-1 -2 -7", "eventCount:-1",
            "eventAt:-1 -3", "dataAt:-1 -2 -3", "versionAt:-1 -2 -3", "ownerAt:-1 -2 -3 -8", "childCount:-1 -3",
            "nodeCount:-1", "commonLog:-1"
        };
        for (String row : errors) {
            String name = row.substring(0, row.indexOf(':'));
            for (String code : row.substring(row.indexOf(':') + 1).split(" ")) {
                if (!answers.containsKey(name + " " + code)) {
                    System.out.println("no run has had " + name + " answer " + code);
                    covered = false;
                }
            }
        }
        return covered;
    }

    private boolean isAsDue() {
        if (random.nextBoolean()) {
            servers = 3 + random.nextInt(3);
            call("reset", servers);
        }
        while (calls < limit && right) {
            act();
        }
        return right;
    }

    private void act() {
        int total = 0;
        for (int weight : weights) {
            total += weight;
        }
        int drawn = random.nextInt(total);
        int kind = 0;
        while (drawn >= weights[kind]) {
            drawn -= weights[kind];
            kind++;
        }
        switch (kind) {
            case 0 -> startAnew();
            case 1 -> call("crash", server());
            case 2 -> call("restart", server());
            case 3 -> call("elect");
            case 4 -> call("synchronize", server());
            case 5 -> call("accept", server());
            case 6 -> call("heartbeat", server());
            case 7 -> choosePath();
            case 8 -> call("appendName", around(0, 5));
            case 9 -> call("create", data(), owner());
            case 10 -> call("setData", data(), version());
            case 11 -> call("delete", version());
            case 12 -> call("openSession");
            case 13 -> call("closeSession", session());
            case 14 -> call("watch", server(), session());
            default -> read();
        }
    }

    private void startAnew() {
        if (random.nextInt(4) == 0) {
            int number = around(3, 5);
            call("reset", number);
            if (number >= 3 && number <= 5) {
                servers = number;
            }
        }
    }

    private void choosePath() {
        call("clearPath");
        List<List<Integer>> known = model.knownPaths();
        List<Integer> chosen = known.get(random.nextInt(known.size()));
        for (int name : chosen) {
            call("appendName", name);
        }
        if (chosen.size() < 4 && random.nextBoolean()) {
            call("appendName", random.nextInt(6));
        }
    }

    private void read() {
        String name = READERS[random.nextInt(READERS.length)];
        switch (name) {
            case "leader", "committedCount" -> call(name);
            case "eventCount" -> call(name, session());
            case "eventAt" -> {
                int session = session();
                int newest = model.eventCount(session);
                call(name, session, random.nextInt(12) == 0 ? -1 : Math.max(0, newest - random.nextInt(12)));
            }
            case "commonLog" -> call(name, server(), server());
            default -> call(name, server());
        }
    }

    /** Mostly a number of the range, at times one just outside, seldom one far away. */
    private int around(int least, int greatest) {
        int drawn = random.nextInt(200);
        if (drawn == 0) {
            return random.nextBoolean() ? Integer.MIN_VALUE : Integer.MAX_VALUE;
        }
        if (drawn < 12) {
            return random.nextBoolean() ? least - 1 : greatest + 1;
        }
        return least + random.nextInt(greatest - least + 1);
    }

    private int server() {
        return around(0, servers - 1);
    }

    private int session() {
        return around(0, Math.max(0, model.sessionCount() - 1));
    }

    private int data() {
        return random.nextInt(10) == 0 ? around(0, 999) : random.nextInt(1000);
    }

    private int owner() {
        return random.nextBoolean() ? -8 : session();
    }

    private int version() {
        return random.nextInt(3) == 0 ? around(0, 2) : random.nextInt(20) == 0 ? -8 : -9;
    }

    private void call(String name, int... arguments) {
        if (!right || calls >= limit) {
            return;
        }
        calls++;
        int got = Calls.answer(service, name, arguments);
        int due = dueOf(name, arguments);
        if (due < 0) {
            answers.merge(name + " " + due, 1, Integer::sum);
        }
        told.add(name + Arrays.toString(arguments) + " = " + due);
        if (got != due) {
            right = false;
            System.out.println("run " + run + ": " + String.join("; ", told) + ", but answered " + got);
        }
    }

    private int dueOf(String name, int[] a) {
        return switch (name) {
            case "reset" -> model.reset(a[0]);
            case "crash" -> model.crash(a[0]);
            case "restart" -> model.restart(a[0]);
            case "elect" -> model.elect();
            case "synchronize" -> model.synchronize(a[0]);
            case "accept" -> model.accept(a[0]);
            case "heartbeat" -> model.heartbeat(a[0]);
            case "leader" -> model.leader();
            case "lastIdentifier" -> model.lastIdentifier(a[0]);
            case "appliedCount" -> model.appliedCount(a[0]);
            case "committedCount" -> model.committedCount();
            case "acceptedEpoch" -> model.acceptedEpoch(a[0]);
            case "appendName" -> model.appendName(a[0]);
            case "clearPath" -> model.clearPath();
            case "create" -> model.create(a[0], a[1]);
            case "setData" -> model.setData(a[0], a[1]);
            case "delete" -> model.delete(a[0]);
            case "openSession" -> model.openSession();
            case "closeSession" -> model.closeSession(a[0]);
            case "watch" -> model.watch(a[0], a[1]);
            case "eventCount" -> model.eventCount(a[0]);
            case "eventAt" -> model.eventAt(a[0], a[1]);
            case "dataAt" -> model.dataAt(a[0]);
            case "versionAt" -> model.versionAt(a[0]);
            case "ownerAt" -> model.ownerAt(a[0]);
            case "childCount" -> model.childCount(a[0]);
            case "nodeCount" -> model.nodeCount(a[0]);
            case "commonLog" -> model.commonLog(a[0], a[1]);
            default -> throw new IllegalArgumentException(name);
        };
    }
}
