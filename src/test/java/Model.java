import java.util.ArrayList;
import java.util.Collections;
import java.util.Comparator;
import java.util.List;
import java.util.TreeMap;

/**
 * The document once more, by its letter and without a thought for cost: trees are found by doing all
 * transactions of a log again, and numbers by trying. The class is compared with it.
 */
final class Model {
    private static final int INVALID = -1, IMPOSSIBLE = -2, MISSING = -3, EXISTS = -4, VERSION = -5, CHILDREN = -6, FULL = -7;
    private static final int NONE = -8, ANY = -9;

    private enum Kind { CREATE, SET, DELETE, CLOSE }

    private record Change(int identifier, Kind kind, List<Integer> path, int data, int session) { }

    private record Value(int data, int version, int owner) { }

    private record Touch(List<Integer> path, int eventKind) { }

    private record Watch(int server, int session, List<Integer> path) { }

    private static final class Server {
        boolean up = true;
        boolean active;
        List<Change> log = new ArrayList<>();
        int accepted;
        int applied;

        int last() {
            return log.isEmpty() ? 0 : log.get(log.size() - 1).identifier();
        }
    }

    private static final Comparator<List<Integer>> PATH_ORDER = (a, b) -> {
        for (int i = 0; i < Math.min(a.size(), b.size()); i++) {
            if (!a.get(i).equals(b.get(i))) {
                return a.get(i) - b.get(i);
            }
        }
        return a.size() - b.size();
    };

    private List<Server> servers;
    private List<List<Integer>> events;
    private List<Watch> watches;
    private List<Integer> buffer;
    private int leader;
    private int epoch;
    private int counter;
    private int committed;

    Model() {
        begin(3);
    }

    private void begin(int count) {
        servers = new ArrayList<>();
        for (int i = 0; i < count; i++) {
            servers.add(new Server());
        }
        events = new ArrayList<>();
        watches = new ArrayList<>();
        buffer = List.of();
        leader = MISSING;
        epoch = 0;
        counter = 0;
        committed = 0;
    }

    private boolean noServer(int server) {
        return server < 0 || server >= servers.size();
    }

    private boolean noSession(int session) {
        return session < 0 || session >= events.size();
    }

    private boolean isQuorum(long number) {
        return 2 * number > servers.size();
    }

    private long ups() {
        return servers.stream().filter(s -> s.up).count();
    }

    private boolean isFollower(int server) {
        return leader != MISSING && server != leader && servers.get(server).active;
    }

    private List<Change> leaderLog() {
        return servers.get(leader).log;
    }

    private boolean isClosed(int session) {
        return leaderLog().stream().anyMatch(c -> c.kind() == Kind.CLOSE && c.session() == session);
    }

    private static List<Touch> perform(TreeMap<List<Integer>, Value> tree, Change change) {
        List<Touch> touches = new ArrayList<>();
        Value old = tree.get(change.path());
        switch (change.kind()) {
            case CREATE -> {
                tree.put(change.path(), new Value(change.data(), 0, change.session()));
                touches.add(new Touch(change.path(), 0));
            }
            case SET -> {
                tree.put(change.path(), new Value(change.data(), old.version() + 1, old.owner()));
                touches.add(new Touch(change.path(), 1));
            }
            case DELETE -> {
                tree.remove(change.path());
                touches.add(new Touch(change.path(), 2));
            }
            case CLOSE -> {
                for (List<Integer> path : new ArrayList<>(tree.keySet())) {
                    if (tree.get(path).owner() == change.session()) {
                        tree.remove(path);
                        touches.add(new Touch(path, 2));
                    }
                }
            }
        }
        return touches;
    }

    private static TreeMap<List<Integer>, Value> treeOf(List<Change> changes) {
        TreeMap<List<Integer>, Value> tree = new TreeMap<>(PATH_ORDER);
        for (Change change : changes) {
            perform(tree, change);
        }
        return tree;
    }

    private TreeMap<List<Integer>, Value> treeOf(int server) {
        Server s = servers.get(server);
        return treeOf(s.log.subList(0, s.applied));
    }

    private TreeMap<List<Integer>, Value> proposed() {
        return treeOf(leaderLog());
    }

    private static long children(TreeMap<List<Integer>, Value> tree, List<Integer> path) {
        return tree.keySet().stream()
                .filter(p -> p.size() == path.size() + 1 && p.subList(0, path.size()).equals(path)).count();
    }

    private int applyCommitted(int server) {
        Server s = servers.get(server);
        int done = 0;
        while (s.applied < committed && s.applied < s.log.size()) {
            Change change = s.log.get(s.applied);
            List<Touch> touches = perform(treeOf(server), change);
            s.applied++;
            done++;
            for (Touch touch : touches) {
                fire(server, touch, change.identifier());
            }
        }
        return done;
    }

    private void fire(int server, Touch touch, int identifier) {
        List<Watch> left = new ArrayList<>();
        for (Watch watch : watches) {
            if (watch.server() == server && watch.path().equals(touch.path())) {
                events.get(watch.session()).add(10 * identifier + touch.eventKind());
            } else {
                left.add(watch);
            }
        }
        watches = left;
    }

    private void commit() {
        List<Integer> lengths = new ArrayList<>();
        for (Server s : servers) {
            if (s.active) {
                lengths.add(s.log.size());
            }
        }
        lengths.sort(Collections.reverseOrder());
        int quorum = servers.size() / 2 + 1;
        if (lengths.size() >= quorum) {
            committed = Math.max(committed, lengths.get(quorum - 1));
        }
        applyCommitted(leader);
    }

    private int common(Server one, Server two) {
        int length = 0;
        while (length < one.log.size() && length < two.log.size() && one.log.get(length).equals(two.log.get(length))) {
            length++;
        }
        return length;
    }

    private int adopt(Server server) {
        int common = common(server, servers.get(leader));
        int removed = server.log.size() - common;
        if (server.applied > common) {
            throw new IllegalStateException("an applied transaction would be removed");
        }
        server.log = new ArrayList<>(leaderLog());
        return 100 * removed + server.log.size() - common;
    }

    private int propose(Kind kind, List<Integer> path, int data, int session) {
        if (leaderLog().size() == 40) {
            return FULL;
        }
        counter++;
        int identifier = 1000 * epoch + counter;
        leaderLog().add(new Change(identifier, kind, path, data, session));
        return identifier;
    }

    /** The root and all nodes of the proposed tree or, without a leader, of the tree of server 0. */
    List<List<Integer>> knownPaths() {
        List<List<Integer>> paths = new ArrayList<>(leader == MISSING ? treeOf(0).keySet() : proposed().keySet());
        paths.add(List.of());
        return paths;
    }

    int sessionCount() {
        return events.size();
    }

    int reset(int count) {
        if (count < 3 || count > 5) {
            return INVALID;
        }
        int before = servers.size();
        begin(count);
        return before;
    }

    int crash(int server) {
        if (noServer(server)) {
            return INVALID;
        }
        Server s = servers.get(server);
        if (!s.up) {
            return IMPOSSIBLE;
        }
        s.up = false;
        s.active = false;
        watches.removeIf(w -> w.server() == server);
        if (server == leader || !isQuorum(servers.stream().filter(x -> x.active).count())) {
            leader = MISSING;
            servers.forEach(x -> x.active = false);
        }
        return (int) ups();
    }

    int restart(int server) {
        if (noServer(server)) {
            return INVALID;
        }
        if (servers.get(server).up) {
            return IMPOSSIBLE;
        }
        servers.get(server).up = true;
        return (int) ups();
    }

    int elect() {
        if (leader != MISSING || !isQuorum(ups())) {
            return IMPOSSIBLE;
        }
        Comparator<Integer> order = Comparator.<Integer>comparingInt(i -> servers.get(i).accepted)
                .thenComparingInt(i -> servers.get(i).last()).thenComparingInt(i -> i);
        List<Integer> candidates = new ArrayList<>();
        for (int i = 0; i < servers.size(); i++) {
            if (servers.get(i).up) {
                candidates.add(i);
            }
        }
        leader = Collections.max(candidates, order);
        epoch = candidates.stream().mapToInt(i -> servers.get(i).accepted).max().getAsInt() + 1;
        counter = 0;
        for (int i : candidates) {
            if (i != leader) {
                adopt(servers.get(i));
            }
            servers.get(i).active = true;
        }
        candidates.forEach(i -> servers.get(i).accepted = epoch);
        committed = leaderLog().size();
        candidates.forEach(this::applyCommitted);
        return leader;
    }

    int synchronize(int server) {
        if (noServer(server)) {
            return INVALID;
        }
        Server s = servers.get(server);
        if (leader == MISSING || !s.up || s.active) {
            return IMPOSSIBLE;
        }
        int answer = adopt(s);
        s.active = true;
        s.accepted = epoch;
        commit();
        applyCommitted(server);
        return answer;
    }

    int accept(int server) {
        if (noServer(server)) {
            return INVALID;
        }
        if (!isFollower(server) || servers.get(server).log.size() == leaderLog().size()) {
            return IMPOSSIBLE;
        }
        Change next = leaderLog().get(servers.get(server).log.size());
        servers.get(server).log.add(next);
        commit();
        return next.identifier();
    }

    int heartbeat(int server) {
        if (noServer(server)) {
            return INVALID;
        }
        return isFollower(server) ? applyCommitted(server) : IMPOSSIBLE;
    }

    int leader() {
        return leader;
    }

    int lastIdentifier(int server) {
        return noServer(server) ? INVALID : servers.get(server).last();
    }

    int appliedCount(int server) {
        return noServer(server) ? INVALID : servers.get(server).applied;
    }

    int committedCount() {
        return leader == MISSING ? IMPOSSIBLE : committed;
    }

    int acceptedEpoch(int server) {
        return noServer(server) ? INVALID : servers.get(server).accepted;
    }

    int appendName(int name) {
        if (name < 0 || name > 5) {
            return INVALID;
        }
        if (buffer.size() == 4) {
            return FULL;
        }
        List<Integer> longer = new ArrayList<>(buffer);
        longer.add(name);
        buffer = List.copyOf(longer);
        return buffer.size();
    }

    int clearPath() {
        int length = buffer.size();
        buffer = List.of();
        return length;
    }

    int create(int data, int owner) {
        if (data < 0 || data > 999 || owner != NONE && noSession(owner)) {
            return INVALID;
        }
        if (leader == MISSING || isClosed(owner)) {
            return IMPOSSIBLE;
        }
        TreeMap<List<Integer>, Value> tree = proposed();
        if (buffer.isEmpty() || tree.containsKey(buffer)) {
            return EXISTS;
        }
        List<Integer> parent = buffer.subList(0, buffer.size() - 1);
        if (!parent.isEmpty() && (!tree.containsKey(parent) || tree.get(parent).owner() != NONE)) {
            return MISSING;
        }
        return tree.size() == 12 ? FULL : propose(Kind.CREATE, buffer, data, owner);
    }

    int setData(int data, int version) {
        if (data < 0 || data > 999 || version < 0 && version != ANY) {
            return INVALID;
        }
        if (leader == MISSING || buffer.isEmpty()) {
            return IMPOSSIBLE;
        }
        Value value = proposed().get(buffer);
        if (value == null) {
            return MISSING;
        }
        return version != ANY && version != value.version() ? VERSION : propose(Kind.SET, buffer, data, NONE);
    }

    int delete(int version) {
        if (version < 0 && version != ANY) {
            return INVALID;
        }
        if (leader == MISSING || buffer.isEmpty()) {
            return IMPOSSIBLE;
        }
        TreeMap<List<Integer>, Value> tree = proposed();
        Value value = tree.get(buffer);
        if (value == null) {
            return MISSING;
        }
        if (version != ANY && version != value.version()) {
            return VERSION;
        }
        return children(tree, buffer) > 0 ? CHILDREN : propose(Kind.DELETE, buffer, 0, NONE);
    }

    int openSession() {
        if (events.size() == 6) {
            return FULL;
        }
        events.add(new ArrayList<>());
        return events.size() - 1;
    }

    int closeSession(int session) {
        if (noSession(session)) {
            return INVALID;
        }
        if (leader == MISSING || isClosed(session)) {
            return IMPOSSIBLE;
        }
        return propose(Kind.CLOSE, List.of(), 0, session);
    }

    int watch(int server, int session) {
        if (noServer(server) || noSession(session)) {
            return INVALID;
        }
        if (!servers.get(server).up || buffer.isEmpty()) {
            return IMPOSSIBLE;
        }
        if (watches.size() == 10) {
            return FULL;
        }
        watches.add(new Watch(server, session, buffer));
        return watches.size();
    }

    int eventCount(int session) {
        return noSession(session) ? INVALID : events.get(session).size();
    }

    int eventAt(int session, int event) {
        if (noSession(session) || event < 0) {
            return INVALID;
        }
        List<Integer> all = events.get(session);
        return event >= all.size() || event + 8 < all.size() ? MISSING : all.get(event);
    }

    int dataAt(int server) {
        return nodeAt(server, Part.DATA);
    }

    int versionAt(int server) {
        return nodeAt(server, Part.VERSION);
    }

    int ownerAt(int server) {
        return nodeAt(server, Part.OWNER);
    }

    private enum Part { DATA, VERSION, OWNER }

    private int nodeAt(int server, Part part) {
        if (noServer(server)) {
            return INVALID;
        }
        if (buffer.isEmpty()) {
            return IMPOSSIBLE;
        }
        Value value = treeOf(server).get(buffer);
        if (value == null) {
            return MISSING;
        }
        return part == Part.DATA ? value.data() : part == Part.VERSION ? value.version() : value.owner();
    }

    int childCount(int server) {
        if (noServer(server)) {
            return INVALID;
        }
        TreeMap<List<Integer>, Value> tree = treeOf(server);
        return buffer.isEmpty() || tree.containsKey(buffer) ? (int) children(tree, buffer) : MISSING;
    }

    int nodeCount(int server) {
        return noServer(server) ? INVALID : treeOf(server).size();
    }

    int commonLog(int server, int other) {
        return noServer(server) || noServer(other) ? INVALID : common(servers.get(server), servers.get(other));
    }
}
