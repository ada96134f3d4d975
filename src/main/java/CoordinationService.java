import java.util.ArrayList;

/**
 * A simulator of a replicated coordination service: a tree of small data nodes, kept on several
 * servers by an ordered broadcast with a leader.
 */
public final class CoordinationService {
    public static final int INVALID_ARGUMENT = -1;
    public static final int NOT_POSSIBLE = -2;
    public static final int NOT_FOUND = -3;
    public static final int ALREADY_EXISTS = -4;
    public static final int BAD_VERSION = -5;
    public static final int NOT_EMPTY = -6;
    public static final int CAPACITY_EXCEEDED = -7;
    public static final int NONE = -8, ANY_VERSION = -9;
    public static final int CREATED = 0, CHANGED = 1, DELETED = 2;

    private static final int FEWEST_SERVERS = 3;
    private static final int MOST_SERVERS = 5;
    private static final int MOST_TRANSACTIONS = 40;
    private static final int MOST_NODES = 12;
    private static final int MOST_NAMES = 4;
    private static final int GREATEST_NAME = 5;
    private static final int GREATEST_DATA = 999;
    private static final int MOST_SESSIONS = 6;
    private static final int MOST_WATCHES = 10;
    private static final int READABLE_EVENTS = 8;
    // A mask and not a remainder, so that every number of an event has a place in the row.
    private static final int PLACE_OF_EVENT = READABLE_EVENTS - 1;
    private static final int IDENTIFIERS_OF_AN_EPOCH = 1000;

    // A path is one number, three bits a name: a name is put as name + 1, so that 0 is the root.
    private static final int ROOT = 0;
    private static final int BITS_OF_A_NAME = 3;
    private static final int FIRST_PATH_OF_FULL_LENGTH = 1 << BITS_OF_A_NAME * (MOST_NAMES - 1);
    private static final int NO_PATH = -1;

    // The proposed tree belongs to no server, so nobody watches it.
    private static final int NO_SERVER = -1;

    private final Server[] servers = new Server[MOST_SERVERS];
    private final Session[] sessions = new Session[MOST_SESSIONS];
    private final Watches watches = new Watches();
    private final Tree proposedTree = new Tree(NO_SERVER);
    private int serverTotal;
    private int sessionTotal;
    private Server chief;
    private int epoch;
    private int counter;
    private int committed;
    private int path;
    private int pathLength;

    public CoordinationService() {
        for (int i = 0; i < servers.length; i++) {
            servers[i] = new Server(i);
        }
        for (int i = 0; i < sessions.length; i++) {
            sessions[i] = new Session(i);
        }
        startAnew(FEWEST_SERVERS);
    }

    public int reset(int servers) {
        if (servers < FEWEST_SERVERS || servers > MOST_SERVERS) {
            return INVALID_ARGUMENT;
        }
        int previous = serverTotal;
        startAnew(servers);
        return previous;
    }

    public int crash(int server) {
        Server found = findServer(server);
        if (found == null) {
            return INVALID_ARGUMENT;
        }
        if (!found.up) {
            return NOT_POSSIBLE;
        }
        found.up = false;
        found.active = false;
        watches.dropAllOf(server);
        if (found == chief || countActive() < quorum()) {
            endLeadership();
        }
        return countUp();
    }

    public int restart(int server) {
        Server found = findServer(server);
        if (found == null) {
            return INVALID_ARGUMENT;
        }
        if (found.up) {
            return NOT_POSSIBLE;
        }
        found.up = true;
        return countUp();
    }

    public int elect() {
        if (chief != null || countUp() < quorum()) {
            return NOT_POSSIBLE;
        }
        Server chosen = bestCandidate();
        if (chosen == null) {
            return NOT_POSSIBLE;
        }
        beginEpoch(chosen);
        return chosen.number;
    }

    public int synchronize(int server) {
        Server found = findServer(server);
        if (found == null) {
            return INVALID_ARGUMENT;
        }
        if (chief == null || !found.up || found.active) {
            return NOT_POSSIBLE;
        }
        int changes = found.copyLogOf(chief);
        found.active = true;
        found.epoch = epoch;
        commitWhatAQuorumHas(chief);
        found.applyUpTo(committed, watches);
        return changes;
    }

    public int accept(int server) {
        Server found = findServer(server);
        if (found == null) {
            return INVALID_ARGUMENT;
        }
        if (chief == null || !isFollower(found)) {
            return NOT_POSSIBLE;
        }
        int next = found.log.size();
        if (next >= chief.log.size()) {
            return NOT_POSSIBLE;
        }
        Transaction transaction = chief.log.get(next);
        found.log.add(transaction);
        commitWhatAQuorumHas(chief);
        return transaction.identifier;
    }

    public int heartbeat(int server) {
        Server found = findServer(server);
        if (found == null) {
            return INVALID_ARGUMENT;
        }
        if (!isFollower(found)) {
            return NOT_POSSIBLE;
        }
        return found.applyUpTo(committed, watches);
    }

    public int leader() {
        return chief == null ? NOT_FOUND : chief.number;
    }

    public int lastIdentifier(int server) {
        Server found = findServer(server);
        return found == null ? INVALID_ARGUMENT : found.newestIdentifier();
    }

    public int appliedCount(int server) {
        Server found = findServer(server);
        return found == null ? INVALID_ARGUMENT : found.applied;
    }

    public int committedCount() {
        return chief == null ? NOT_POSSIBLE : committed;
    }

    public int acceptedEpoch(int server) {
        Server found = findServer(server);
        return found == null ? INVALID_ARGUMENT : found.epoch;
    }

    public int appendName(int name) {
        if (name < 0 || name > GREATEST_NAME) {
            return INVALID_ARGUMENT;
        }
        if (pathLength >= MOST_NAMES) {
            return CAPACITY_EXCEEDED;
        }
        path = (path << BITS_OF_A_NAME) + name + 1;
        pathLength++;
        return pathLength;
    }

    public int clearPath() {
        int previous = pathLength;
        path = ROOT;
        pathLength = 0;
        return previous;
    }

    public int create(int data, int owner) {
        if (!isData(data) || owner != NONE && findSession(owner) == null) {
            return INVALID_ARGUMENT;
        }
        if (chief == null || chief.hasClosed(owner)) {
            return NOT_POSSIBLE;
        }
        if (path == ROOT || proposedTree.find(path) != null) {
            return ALREADY_EXISTS;
        }
        if (!proposedTree.canHaveChildren(parentOf(path))) {
            return NOT_FOUND;
        }
        if (proposedTree.size() >= MOST_NODES) {
            return CAPACITY_EXCEEDED;
        }
        return propose(Transaction.CREATE, path, data, owner);
    }

    public int setData(int data, int version) {
        if (!isData(data) || !isVersion(version)) {
            return INVALID_ARGUMENT;
        }
        if (chief == null || path == ROOT) {
            return NOT_POSSIBLE;
        }
        Node node = proposedTree.find(path);
        if (node == null) {
            return NOT_FOUND;
        }
        if (!node.hasVersion(version)) {
            return BAD_VERSION;
        }
        return propose(Transaction.SET, path, data, NONE);
    }

    public int delete(int version) {
        if (!isVersion(version)) {
            return INVALID_ARGUMENT;
        }
        if (chief == null || path == ROOT) {
            return NOT_POSSIBLE;
        }
        Node node = proposedTree.find(path);
        if (node == null) {
            return NOT_FOUND;
        }
        if (!node.hasVersion(version)) {
            return BAD_VERSION;
        }
        if (proposedTree.countChildren(path) > 0) {
            return NOT_EMPTY;
        }
        return propose(Transaction.DELETE, path, 0, NONE);
    }

    public int openSession() {
        if (sessionTotal >= MOST_SESSIONS) {
            return CAPACITY_EXCEEDED;
        }
        Session opened = sessions[sessionTotal];
        opened.forgetEvents();
        sessionTotal++;
        return opened.number;
    }

    public int closeSession(int session) {
        if (findSession(session) == null) {
            return INVALID_ARGUMENT;
        }
        if (chief == null || chief.hasClosed(session)) {
            return NOT_POSSIBLE;
        }
        return propose(Transaction.CLOSE, ROOT, 0, session);
    }

    public int watch(int server, int session) {
        Server watched = findServer(server);
        Session watcher = findSession(session);
        if (watched == null || watcher == null) {
            return INVALID_ARGUMENT;
        }
        if (!watched.up || path == ROOT) {
            return NOT_POSSIBLE;
        }
        if (watches.size() >= MOST_WATCHES) {
            return CAPACITY_EXCEEDED;
        }
        watches.add(new Watch(server, watcher, path));
        return watches.size();
    }

    public int eventCount(int session) {
        Session found = findSession(session);
        return found == null ? INVALID_ARGUMENT : found.eventTotal;
    }

    public int eventAt(int session, int event) {
        Session found = findSession(session);
        if (found == null || event < 0) {
            return INVALID_ARGUMENT;
        }
        return found.readEvent(event);
    }

    public int dataAt(int server) {
        Node node = nodeAt(server);
        return node == null ? nodeError(server) : node.data;
    }

    public int versionAt(int server) {
        Node node = nodeAt(server);
        return node == null ? nodeError(server) : node.version;
    }

    public int ownerAt(int server) {
        Node node = nodeAt(server);
        return node == null ? nodeError(server) : node.owner;
    }

    public int childCount(int server) {
        Server found = findServer(server);
        if (found == null) {
            return INVALID_ARGUMENT;
        }
        if (path != ROOT && found.tree.find(path) == null) {
            return NOT_FOUND;
        }
        return found.tree.countChildren(path);
    }

    public int nodeCount(int server) {
        Server found = findServer(server);
        return found == null ? INVALID_ARGUMENT : found.tree.size();
    }

    public int commonLog(int server, int other) {
        Server one = findServer(server);
        Server two = findServer(other);
        return one == null || two == null ? INVALID_ARGUMENT : one.commonLength(two);
    }

    private void startAnew(int total) {
        serverTotal = total;
        // Servers beyond the total are kept, but stay down for ever: no call can reach them.
        for (Server server : servers) {
            server.startAnew(server.number < total);
        }
        sessionTotal = 0;
        watches.dropAll();
        chief = null;
        epoch = 0;
        counter = 0;
        committed = 0;
        path = ROOT;
        pathLength = 0;
    }

    private Server findServer(int number) {
        return number < 0 || number >= serverTotal ? null : servers[number];
    }

    private Session findSession(int number) {
        return number < 0 || number >= sessionTotal ? null : sessions[number];
    }

    private int quorum() {
        return serverTotal / 2 + 1;
    }

    private int countUp() {
        int count = 0;
        for (Server server : servers) {
            if (server.up) {
                count++;
            }
        }
        return count;
    }

    private int countActive() {
        return countActiveWithLogOf(0);
    }

    private int countActiveWithLogOf(int length) {
        int count = 0;
        for (Server server : servers) {
            if (server.active && server.log.size() >= length) {
                count++;
            }
        }
        return count;
    }

    private boolean isFollower(Server server) {
        return server.active && server != chief;
    }

    private void endLeadership() {
        chief = null;
        for (Server server : servers) {
            server.active = false;
        }
    }

    private Server bestCandidate() {
        Server best = null;
        for (Server server : servers) {
            if (server.up && (best == null || !best.isAheadOf(server))) {
                best = server;
            }
        }
        return best;
    }

    private void beginEpoch(Server chosen) {
        chief = chosen;
        // The chosen server has the greatest accepted epoch of those that are up.
        epoch = chosen.epoch + 1;
        counter = 0;
        for (Server server : servers) {
            if (server.up) {
                server.copyLogOf(chosen);
                server.active = true;
                server.epoch = epoch;
            }
        }
        committed = chosen.log.size();
        for (Server server : servers) {
            if (server.active) {
                server.applyUpTo(committed, watches);
            }
        }
        proposeLogAgain(chosen);
    }

    private void proposeLogAgain(Server leading) {
        proposedTree.clear();
        for (int i = 0; i < leading.log.size(); i++) {
            proposedTree.carryOut(leading.log.get(i), watches);
        }
    }

    private void commitWhatAQuorumHas(Server leading) {
        // Counting on from what is committed already, the number can't fall.
        for (int count = committed + 1; count <= leading.log.size(); count++) {
            if (countActiveWithLogOf(count) >= quorum()) {
                committed = count;
            }
        }
        leading.applyUpTo(committed, watches);
    }

    private int propose(int kind, int nodePath, int data, int session) {
        if (chief == null) {
            return NOT_POSSIBLE;
        }
        if (chief.log.size() >= MOST_TRANSACTIONS) {
            return CAPACITY_EXCEEDED;
        }
        counter++;
        int identifier = IDENTIFIERS_OF_AN_EPOCH * epoch + counter;
        Transaction transaction = new Transaction(identifier, kind, nodePath, data, session);
        chief.log.add(transaction);
        proposedTree.carryOut(transaction, watches);
        return identifier;
    }

    private Node nodeAt(int server) {
        Server found = findServer(server);
        return found == null ? null : found.tree.find(path);
    }

    /** The answer of a call that reads a node of a server's tree, if there is none to read. */
    private int nodeError(int server) {
        if (findServer(server) == null) {
            return INVALID_ARGUMENT;
        }
        return path == ROOT ? NOT_POSSIBLE : NOT_FOUND;
    }

    private static boolean isData(int data) {
        return data >= 0 && data <= GREATEST_DATA;
    }

    private static boolean isVersion(int version) {
        return version >= 0 || version == ANY_VERSION;
    }

    private static int parentOf(int path) {
        return path >> BITS_OF_A_NAME;
    }

    /** Paths shifted to full length compare name by name, and a path comes before its extensions. */
    private static int rankOf(int path) {
        int rank = path;
        for (int names = 1; names < MOST_NAMES && rank < FIRST_PATH_OF_FULL_LENGTH; names++) {
            rank = rank << BITS_OF_A_NAME;
        }
        return rank;
    }

    private static final class Transaction {
        static final int CREATE = 0;
        static final int SET = 1;
        static final int DELETE = 2;
        static final int CLOSE = 3;

        final int identifier;
        final int kind;
        final int path;
        final int data;
        /** The owner of the node that is created, or the session that is closed. */
        final int session;

        Transaction(int identifier, int kind, int path, int data, int session) {
            this.identifier = identifier;
            this.kind = kind;
            this.path = path;
            this.data = data;
            this.session = session;
        }
    }

    private static final class Server {
        final int number;
        final Tree tree;
        final ArrayList<Transaction> log = new ArrayList<>();
        boolean up;
        boolean active;
        int epoch;
        int applied;

        Server(int number) {
            this.number = number;
            tree = new Tree(number);
        }

        void startAnew(boolean isUp) {
            log.clear();
            tree.clear();
            up = isUp;
            active = false;
            epoch = 0;
            applied = 0;
        }

        int newestIdentifier() {
            return log.isEmpty() ? 0 : log.get(log.size() - 1).identifier;
        }

        /** Whether an election prefers this server to one with a greater number. */
        boolean isAheadOf(Server other) {
            if (epoch != other.epoch) {
                return epoch > other.epoch;
            }
            return newestIdentifier() > other.newestIdentifier();
        }

        boolean hasClosed(int session) {
            for (int i = 0; i < log.size(); i++) {
                Transaction transaction = log.get(i);
                if (transaction.kind == Transaction.CLOSE && transaction.session == session) {
                    return true;
                }
            }
            return false;
        }

        int commonLength(Server other) {
            int shorter = Math.min(log.size(), other.log.size());
            for (int i = 0; i < shorter; i++) {
                // Each epoch has one leader, so an identifier tells the whole transaction.
                if (log.get(i).identifier != other.log.get(i).identifier) {
                    return i;
                }
            }
            return shorter;
        }

        /** Answers 100 times the number of removed transactions plus that of the appended ones. */
        int copyLogOf(Server leading) {
            // The loops below must not change the log that they read.
            if (leading == this) {
                return 0;
            }
            int common = commonLength(leading);
            int removed = log.size() - common;
            int end = leading.log.size();
            for (int i = log.size() - 1; i >= common; i--) {
                log.remove(i);
            }
            for (int i = common; i < end; i++) {
                log.add(leading.log.get(i));
            }
            return 100 * removed + end - common;
        }

        /** Answers the number of transactions that are newly applied. */
        int applyUpTo(int count, Watches watches) {
            int end = Math.min(count, log.size());
            int before = applied;
            for (int i = before; i < end; i++) {
                tree.carryOut(log.get(i), watches);
                applied = i + 1;
            }
            return applied - before;
        }
    }

    private static final class Node {
        int path = NO_PATH;
        int data;
        int version;
        int owner;

        boolean hasVersion(int expected) {
            return expected == ANY_VERSION || expected == version;
        }

        /** Makes the node free for another path, and answers the path that it had. */
        int release() {
            int previous = path;
            path = NO_PATH;
            return previous;
        }
    }

    /** The nodes besides the root, in no order; a node without a path is free for use. */
    private static final class Tree {
        private final int server;
        private final Node[] nodes = new Node[MOST_NODES];

        Tree(int server) {
            this.server = server;
            for (int i = 0; i < nodes.length; i++) {
                nodes[i] = new Node();
            }
        }

        void clear() {
            for (Node node : nodes) {
                node.path = NO_PATH;
            }
        }

        Node find(int path) {
            for (Node node : nodes) {
                if (node.path == path) {
                    return node;
                }
            }
            return null;
        }

        int size() {
            int count = 0;
            for (Node node : nodes) {
                if (node.path != NO_PATH) {
                    count++;
                }
            }
            return count;
        }

        int countChildren(int path) {
            int count = 0;
            for (Node node : nodes) {
                if (node.path != NO_PATH && parentOf(node.path) == path) {
                    count++;
                }
            }
            return count;
        }

        boolean canHaveChildren(int path) {
            if (path == ROOT) {
                return true;
            }
            Node node = find(path);
            return node != null && node.owner == NONE;
        }

        void carryOut(Transaction transaction, Watches watches) {
            switch (transaction.kind) {
                case Transaction.CREATE:
                    addNode(transaction, watches);
                    break;
                case Transaction.SET:
                    changeNode(transaction, watches);
                    break;
                case Transaction.DELETE:
                    removeNode(transaction, watches);
                    break;
                default:
                    removeNodesOfSession(transaction, watches);
                    break;
            }
        }

        private void addNode(Transaction transaction, Watches watches) {
            Node free = find(NO_PATH);
            if (free == null) {
                return;
            }
            free.path = transaction.path;
            free.data = transaction.data;
            free.version = 0;
            free.owner = transaction.session;
            watches.fire(server, free.path, CREATED, transaction.identifier);
        }

        private void changeNode(Transaction transaction, Watches watches) {
            Node node = find(transaction.path);
            if (node == null) {
                return;
            }
            node.data = transaction.data;
            node.version++;
            watches.fire(server, node.path, CHANGED, transaction.identifier);
        }

        private void removeNode(Transaction transaction, Watches watches) {
            Node node = find(transaction.path);
            if (node == null) {
                return;
            }
            watches.fire(server, node.release(), DELETED, transaction.identifier);
        }

        private void removeNodesOfSession(Transaction transaction, Watches watches) {
            for (int i = 0; i < nodes.length; i++) {
                Node first = firstNodeOf(transaction.session);
                if (first == null) {
                    return;
                }
                watches.fire(server, first.release(), DELETED, transaction.identifier);
            }
        }

        private Node firstNodeOf(int session) {
            Node first = null;
            for (Node node : nodes) {
                if (node.path != NO_PATH && node.owner == session
                        && (first == null || rankOf(node.path) < rankOf(first.path))) {
                    first = node;
                }
            }
            return first;
        }
    }

    private static final class Session {
        final int number;
        int eventTotal;
        private final int[] latest = new int[READABLE_EVENTS];

        Session(int number) {
            this.number = number;
        }

        void forgetEvents() {
            eventTotal = 0;
        }

        void addEvent(int kind, int identifier) {
            latest[eventTotal & PLACE_OF_EVENT] = 10 * identifier + kind;
            eventTotal++;
        }

        int readEvent(int event) {
            if (event >= eventTotal || event < eventTotal - READABLE_EVENTS) {
                return NOT_FOUND;
            }
            return latest[event & PLACE_OF_EVENT];
        }
    }

    private static final class Watch {
        final int server;
        final Session session;
        final int path;

        Watch(int server, Session session, int path) {
            this.server = server;
            this.session = session;
            this.path = path;
        }

        boolean isFor(int ofServer, int ofPath) {
            return server == ofServer && path == ofPath;
        }
    }

    /** All watches, in the order in which they were set. */
    private static final class Watches {
        private final ArrayList<Watch> list = new ArrayList<>();

        int size() {
            return list.size();
        }

        void add(Watch added) {
            list.add(added);
        }

        void dropAll() {
            list.clear();
        }

        void dropAllOf(int server) {
            for (int i = list.size() - 1; i >= 0; i--) {
                if (list.get(i).server == server) {
                    list.remove(i);
                }
            }
        }

        void fire(int server, int path, int kind, int identifier) {
            for (int i = 0; i < list.size(); i++) {
                Watch fired = list.get(i);
                if (fired.isFor(server, path)) {
                    fired.session.addEvent(kind, identifier);
                }
            }
            for (int i = list.size() - 1; i >= 0; i--) {
                if (list.get(i).isFor(server, path)) {
                    list.remove(i);
                }
            }
        }
    }
}
