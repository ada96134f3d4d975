import java.util.List;

/**
 * What can be seen of an object from outside, told by the answers of calls that follow. The calls may change
 * the object, so each view is taken of a new one that has had the same calls; together the views show all
 * that the document gives an object to remember.
 */
final class Probe {
    private static final int ANY = CoordinationService.ANY_VERSION;
    private static final int NONE = CoordinationService.NONE;
    private static final int SERVERS = 5;
    private static final int SESSIONS = 6;
    private static final int TRANSACTIONS = 40;
    private static final int WATCHES = 10;
    private static final int FIRST_VIEW_OF_A_TREE = 4;
    static final int VIEWS = FIRST_VIEW_OF_A_TREE + SERVERS;

    private final CoordinationService service;
    private final List<List<Integer>> paths;
    private final StringBuilder told = new StringBuilder();
    private int calls;

    /** The paths are those that the calls before have had to do with. */
    Probe(CoordinationService service, List<List<Integer>> paths) {
        this.service = service;
        this.paths = paths;
    }

    String look(int view) {
        switch (view) {
            case 0 -> lookAtAnswers();
            case 1 -> lookAtServers();
            case 2 -> lookAtProposals();
            case 3 -> lookAtRoomForWatches();
            default -> lookAtTree(view - FIRST_VIEW_OF_A_TREE);
        }
        return told.toString();
    }

    int calls() {
        return calls;
    }

    private int tell(String name, int... arguments) {
        int answer = Calls.answer(service, name, arguments);
        calls++;
        told.append(name);
        for (int argument : arguments) {
            told.append(' ').append(argument);
        }
        told.append(" = ").append(answer).append('\n');
        return answer;
    }

    private void lookAtAnswers() {
        tell("leader");
        tell("committedCount");
        for (int server = 0; server <= SERVERS; server++) {
            for (String name : List.of("lastIdentifier", "appliedCount", "acceptedEpoch", "nodeCount", "childCount")) {
                tell(name, server);
            }
            tellNode(server);
        }
        for (int server = 0; server < SERVERS; server++) {
            for (int other = server; other < SERVERS; other++) {
                tell("commonLog", server, other);
            }
        }
        tellEvents();
        tell("clearPath");
    }

    private void tellNode(int server) {
        tell("dataAt", server);
        tell("versionAt", server);
        tell("ownerAt", server);
    }

    private void tellEvents() {
        for (int session = 0; session <= SESSIONS; session++) {
            int count = tell("eventCount", session);
            for (int event = Math.max(0, count - 9); event <= count; event++) {
                tell("eventAt", session, event);
            }
        }
    }

    /** Which servers are up and active, what they have yet to accept and to apply, and their epochs. */
    private void lookAtServers() {
        for (int server = 0; server < SERVERS; server++) {
            tell("heartbeat", server);
        }
        for (int server = 0; server < SERVERS; server++) {
            acceptAll(server);
            tell("committedCount");
        }
        for (int server = 0; server < SERVERS; server++) {
            tell("synchronize", server);
        }
        for (int server = 0; server < SERVERS; server++) {
            tell("crash", server);
            tell("leader");
        }
        for (int server = 0; server < SERVERS; server++) {
            tell("restart", server);
        }
        tell("elect");
        tell("closeSession", 0);
    }

    private void acceptAll(int server) {
        int left = TRANSACTIONS + 1;
        while (left > 0 && tell("accept", server) >= 0) {
            left--;
        }
    }

    /** The epoch and the counter, the path buffer, the proposed tree, the sessions, and the watches that fire. */
    private void lookAtProposals() {
        tell("elect");
        tell("create", 1, NONE);
        tell("setData", 2, ANY);
        for (List<Integer> path : paths) {
            tell("clearPath");
            for (int name : path) {
                tell("appendName", name);
            }
            tell("create", 3, NONE);
            tell("setData", 4, ANY);
        }
        tell("openSession");
        for (int session = 0; session <= SESSIONS; session++) {
            tell("closeSession", session);
        }
        for (int server = 0; server < SERVERS; server++) {
            acceptAll(server);
            tell("heartbeat", server);
        }
        tellEvents();
    }

    private void lookAtRoomForWatches() {
        tell("openSession");
        tell("appendName", 0);
        tell("appendName", 1);
        for (int i = 0; i <= WATCHES; i++) {
            tell("watch", i % SERVERS, 0);
        }
    }

    private void lookAtTree(int server) {
        for (List<Integer> path : paths) {
            tell("clearPath");
            for (int name : path) {
                tell("appendName", name);
            }
            tellNode(server);
            tell("childCount", server);
        }
    }
}
