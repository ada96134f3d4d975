/** The sentences of the document's description, of its limit on calls and of its constants. */
final class DescriptionSentences {
    /** Sessions, nodes, watches and events; server 1 is up but not active, server 0 lags behind the leader. */
    private static final String BUSY = """
            elect() = 2; openSession() = 0; openSession() = 1; /0; create(1, NONE) = 1001; /0/1; create(2, 0) = 1002;
            watch(2, 1) = 1; watch(0, 0) = 2; /3; create(3, 1) = 1003; closeSession(1) = 1004; accept(0) = 1001;
            accept(0) = 1002; heartbeat(0) = 2; watch(0, 1) = 1; crash(1) = 2; restart(1) = 3;
            """;

    private final Sentences s;

    private DescriptionSentences(Sentences sentences) {
        s = sentences;
    }

    static void all(Sentences sentences) {
        DescriptionSentences group = new DescriptionSentences(sentences);
        group.callsOfAnObject();
        group.constants();
        sentences.section("Description");
        group.errorsChangeNothing();
        group.servers();
        group.leaders();
        group.elections();
        group.synchronization();
        group.endsOfLeadership();
        group.proposals();
        group.commits();
        group.paths();
        group.trees();
        group.transactions();
        group.sessions();
        group.watches();
        group.events();
    }

    private void callsOfAnObject() {
        s.section("What it is");
        s.hold("An object is used for at most 512 calls after it has been made; what later calls answer is free",
                "elect() = 2; /0; create(1, NONE) = 1001;", Sentences.each(5, 510, i -> "committedCount() = 0"),
                "accept(0) = 1001; dataAt(2) = 1");
    }

    private void constants() {
        s.section("Constants");
        s.hold("INVALID_ARGUMENT = -1: An argument is out of its range.", "reset(2) = -1; reset(2) = INVALID_ARGUMENT");
        s.hold("NOT_POSSIBLE = -2: The call is not possible in the present state.",
                "restart(0) = -2; restart(0) = NOT_POSSIBLE");
        s.hold("NOT_FOUND = -3: There is no such node, event or server.", """
                leader() = -3; leader() = NOT_FOUND; appendName(0) = 1; dataAt(0) = -3; openSession() = 0;
                eventAt(0, 0) = -3
                """);
        s.hold("ALREADY_EXISTS = -4: The node already exists.",
                "elect() = 2; create(0, NONE) = -4; create(0, NONE) = ALREADY_EXISTS");
        s.hold("BAD_VERSION = -5: The version is not the expected one.",
                "elect() = 2; /0; create(0, NONE) = 1001; delete(1) = -5; delete(1) = BAD_VERSION");
        s.hold("NOT_EMPTY = -6: The node has children.",
                "elect() = 2; /0; create(0, NONE) = 1001; /0/0; create(0, NONE) = 1002; /0; delete(0) = -6;",
                "delete(0) = NOT_EMPTY");
        s.hold("CAPACITY_EXCEEDED = -7: A fixed limit has been reached.",
                "/0/0/0/0; appendName(0) = -7; appendName(0) = CAPACITY_EXCEEDED");
        s.hold("NONE = -8, ANY_VERSION = -9: No owner, or any version.", """
                elect() = 2; /0; create(0, -9) = -1; create(0, -8) = 1001; setData(1, -8) = -1; setData(1, -9) = 1002;
                delete(-8) = -1; accept(0) = 1001; ownerAt(2) = -8; delete(-9) = 1003
                """);
        s.hold("CREATED = 0, CHANGED = 1, DELETED = 2: Kinds of events.", """
                elect() = 2; openSession() = 0; /0; watch(2, 0) = 1; create(0, NONE) = 1001; accept(0) = 1001;
                watch(2, 0) = 1; setData(1, 0) = 1002; accept(0) = 1002; watch(2, 0) = 1; delete(1) = 1003;
                accept(0) = 1003; eventAt(0, 0) = 10010; eventAt(0, 1) = 10021; eventAt(0, 2) = 10032
                """);
    }

    /** Each refused call is compared by the script with its having been left out. */
    private void errorsChangeNothing() {
        String sentence = "A call that returns an error code changes nothing";
        s.hold(sentence, BUSY, """
                reset(2) = INVALID_ARGUMENT; reset(6) = INVALID_ARGUMENT; crash(3) = INVALID_ARGUMENT;
                restart(3) = INVALID_ARGUMENT; restart(0) = NOT_POSSIBLE; elect() = NOT_POSSIBLE;
                synchronize(3) = INVALID_ARGUMENT; synchronize(0) = NOT_POSSIBLE; synchronize(2) = NOT_POSSIBLE;
                accept(3) = INVALID_ARGUMENT; accept(1) = NOT_POSSIBLE; accept(2) = NOT_POSSIBLE;
                heartbeat(3) = INVALID_ARGUMENT; heartbeat(1) = NOT_POSSIBLE; heartbeat(2) = NOT_POSSIBLE;
                lastIdentifier(3) = INVALID_ARGUMENT; appliedCount(3) = INVALID_ARGUMENT;
                acceptedEpoch(3) = INVALID_ARGUMENT; appendName(6) = INVALID_ARGUMENT; appendName(-1) = INVALID_ARGUMENT;
                create(1000, NONE) = INVALID_ARGUMENT; create(1, 2) = INVALID_ARGUMENT; create(1, 1) = NOT_POSSIBLE;
                setData(-1, 0) = INVALID_ARGUMENT; setData(1, 0) = NOT_FOUND; delete(-1) = INVALID_ARGUMENT;
                delete(0) = NOT_FOUND; closeSession(2) = INVALID_ARGUMENT; closeSession(1) = NOT_POSSIBLE;
                watch(3, 0) = INVALID_ARGUMENT; watch(0, 2) = INVALID_ARGUMENT; eventCount(2) = INVALID_ARGUMENT;
                eventAt(2, 0) = INVALID_ARGUMENT; eventAt(0, -1) = INVALID_ARGUMENT; eventAt(0, 1) = NOT_FOUND
                """);
        s.hold(sentence, BUSY, """
                dataAt(3) = INVALID_ARGUMENT; dataAt(2) = NOT_FOUND; versionAt(3) = INVALID_ARGUMENT;
                versionAt(2) = NOT_FOUND; ownerAt(3) = INVALID_ARGUMENT; ownerAt(2) = NOT_FOUND;
                childCount(3) = INVALID_ARGUMENT; childCount(2) = NOT_FOUND; nodeCount(3) = INVALID_ARGUMENT;
                commonLog(0, 3) = INVALID_ARGUMENT; /0/1/2; create(1, NONE) = NOT_FOUND; /0/1;
                create(1, 0) = ALREADY_EXISTS; setData(1, 1) = BAD_VERSION; delete(1) = BAD_VERSION; /0;
                delete(0) = NOT_EMPTY; /; create(1, NONE) = ALREADY_EXISTS; setData(1, 0) = NOT_POSSIBLE;
                delete(0) = NOT_POSSIBLE; watch(0, 0) = NOT_POSSIBLE; dataAt(0) = NOT_POSSIBLE; versionAt(0) = NOT_POSSIBLE;
                ownerAt(0) = NOT_POSSIBLE; /0/1/2/3; appendName(0) = CAPACITY_EXCEEDED
                """);
        s.hold(sentence, BUSY, """
                crash(2) = 2; crash(2) = NOT_POSSIBLE; leader() = NOT_FOUND; committedCount() = NOT_POSSIBLE;
                synchronize(0) = NOT_POSSIBLE; accept(0) = NOT_POSSIBLE; heartbeat(0) = NOT_POSSIBLE;
                create(1, 0) = NOT_POSSIBLE; setData(1, 0) = NOT_POSSIBLE; delete(0) = NOT_POSSIBLE;
                closeSession(0) = NOT_POSSIBLE; watch(2, 0) = NOT_POSSIBLE; crash(0) = 1; elect() = NOT_POSSIBLE
                """);
        s.hold(sentence, "elect() = 2; openSession() = 0;", Sentences.FULL_LOG, Sentences.accepts(0, 1, 1, 3), """
                setData(1, ANY_VERSION) = CAPACITY_EXCEEDED; delete(ANY_VERSION) = CAPACITY_EXCEEDED;
                closeSession(0) = CAPACITY_EXCEEDED; /1; create(1, NONE) = CAPACITY_EXCEEDED
                """);
        s.hold(sentence, "elect() = 2;", Sentences.TWELVE_NODES, "/1/1; create(1, NONE) = CAPACITY_EXCEEDED");
        s.hold(sentence, Sentences.each(0, 5, i -> "openSession() = " + i), "openSession() = CAPACITY_EXCEEDED; /0;",
                Sentences.each(1, 10, i -> "watch(0, 0) = " + i), "watch(0, 0) = CAPACITY_EXCEEDED");
    }

    private void servers() {
        String numbers = "There are 3 to 5 servers, numbered from 0; initially there are 3";
        s.hold(numbers, "lastIdentifier(-1) = INVALID_ARGUMENT; lastIdentifier(0) = 0; lastIdentifier(2) = 0;",
                "lastIdentifier(3) = INVALID_ARGUMENT; reset(2) = INVALID_ARGUMENT; reset(6) = INVALID_ARGUMENT");
        s.holdForServers(numbers, "lastIdentifier(-1) = INVALID_ARGUMENT; lastIdentifier(0) = 0; lastIdentifier($l) = 0;",
                "lastIdentifier($n) = INVALID_ARGUMENT; crash($l) = $l; crash(0) = $k");
        String quorum = "A quorum is more than half of all servers";
        s.hold(quorum, "crash(0) = 2; elect() = 2; crash(1) = 1; elect() = NOT_POSSIBLE");
        s.hold(quorum, "reset(4) = 3; crash(0) = 3; elect() = 3; crash(1) = 2; leader() = NOT_FOUND; elect() = NOT_POSSIBLE");
        s.hold(quorum, "reset(5) = 3; crash(0) = 4; crash(1) = 3; elect() = 4; crash(2) = 2; leader() = NOT_FOUND;",
                "elect() = NOT_POSSIBLE");
        s.hold("A server is up or down", """
                restart(0) = NOT_POSSIBLE; crash(0) = 2; crash(0) = NOT_POSSIBLE; restart(0) = 3; restart(0) = NOT_POSSIBLE
                """);
        String log = "It has a log of at most 40 transactions, an accepted epoch (initially 0), and a number of applied"
                + " transactions: the first so many transactions of its log have been applied to its tree";
        s.holdForServers(log, "acceptedEpoch(0) = 0; acceptedEpoch($l) = 0; appliedCount(0) = 0; appliedCount($l) = 0");
        s.hold(log, "elect() = 2;", Sentences.LOG_OF_39, "setData(0, ANY_VERSION) = 1040;",
                "setData(0, ANY_VERSION) = CAPACITY_EXCEEDED; lastIdentifier(2) = 1040;", Sentences.accepts(0, 1, 1, 40),
                "accept(0) = NOT_POSSIBLE; lastIdentifier(0) = 1040; appliedCount(2) = 40; appliedCount(0) = 0;",
                "dataAt(2) = 0; versionAt(2) = 39; heartbeat(0) = 40; appliedCount(0) = 40; versionAt(0) = 39");
        s.hold(log, "elect() = 2;", Sentences.FULL_LOG, "accept(0) = 1001; appliedCount(2) = 1; versionAt(2) = 0;",
                "accept(0) = 1002;",
                "appliedCount(2) = 2; versionAt(2) = 1; dataAt(2) = 2; appliedCount(0) = 0; dataAt(0) = NOT_FOUND");
        s.hold(log, "elect() = 2;", Sentences.FULL_LOG, Sentences.accepts(1, 1, 1, 40), "crash(2) = 2; elect() = 1;",
                "setData(1, ANY_VERSION) = CAPACITY_EXCEEDED; lastIdentifier(0) = 1040; appliedCount(0) = 40");
        s.hold("Logs, accepted epochs and applied transactions survive when a server goes down", """
                elect() = 2; /0; create(1, NONE) = 1001; accept(0) = 1001; heartbeat(0) = 1; setData(2, 0) = 1002;
                accept(0) = 1002; crash(0) = 2; lastIdentifier(0) = 1002; acceptedEpoch(0) = 1; appliedCount(0) = 1;
                dataAt(0) = 1; nodeCount(0) = 1; commonLog(0, 2) = 2; restart(0) = 3; lastIdentifier(0) = 1002;
                acceptedEpoch(0) = 1; appliedCount(0) = 1; dataAt(0) = 1; crash(2) = 2; lastIdentifier(2) = 1002;
                appliedCount(2) = 2; acceptedEpoch(2) = 1; dataAt(2) = 2
                """);
        s.hold("A transaction has an identifier, 1000 * epoch + counter", "elect() = 2;", Sentences.FULL_LOG,
                "crash(2) = 2; elect() = 1; /0; create(1, NONE) = 2001; setData(1, 0) = 2002; crash(1) = 1; restart(2) = 2;",
                "elect() = 0; create(1, NONE) = 3001; lastIdentifier(0) = 3001");
        s.hold("The last identifier of a server is that of the last transaction of its log, 0 if the log is empty", """
                lastIdentifier(0) = 0; elect() = 2; lastIdentifier(2) = 0; /0; create(1, NONE) = 1001;
                lastIdentifier(2) = 1001; lastIdentifier(1) = 0; delete(0) = 1002; lastIdentifier(2) = 1002; crash(2) = 2;
                elect() = 1; lastIdentifier(2) = 1002; restart(2) = 3; synchronize(2) = 200; lastIdentifier(2) = 0
                """);
    }

    private void leaders() {
        s.hold("There is a leader, which is a server that is up, or none", """
                leader() = NOT_FOUND; crash(2) = 2; elect() = 1; leader() = 1; crash(1) = 1; leader() = NOT_FOUND;
                restart(1) = 2; leader() = NOT_FOUND; elect() = 1; leader() = 1
                """);
        s.hold("Servers are active or not; the leader is active, and active servers that are not the leader are its followers", """
                crash(0) = 2; elect() = 2; restart(0) = 3; heartbeat(1) = 0; heartbeat(2) = NOT_POSSIBLE;
                heartbeat(0) = NOT_POSSIBLE; synchronize(2) = NOT_POSSIBLE; synchronize(1) = NOT_POSSIBLE;
                synchronize(0) = 0; heartbeat(0) = 0
                """);
        String none = "Without a leader no server is active";
        s.holdForServers(none, Sentences.each(0, 2, i -> "heartbeat(" + i + ") = NOT_POSSIBLE"),
                "heartbeat($l) = NOT_POSSIBLE;",
                "elect() = $l; crash($l) = $l; heartbeat(0) = NOT_POSSIBLE; heartbeat($k) = NOT_POSSIBLE; elect() = $k;",
                "restart($l) = $n; heartbeat($l) = NOT_POSSIBLE; heartbeat(0) = 0");
        s.hold(none, """
                elect() = 2; /0; create(1, NONE) = 1001; crash(0) = 2; crash(1) = 1; restart(0) = 2; restart(1) = 3;
                heartbeat(0) = NOT_POSSIBLE; accept(0) = NOT_POSSIBLE; heartbeat(2) = NOT_POSSIBLE;
                synchronize(0) = NOT_POSSIBLE
                """);
        s.holdForServers("Initially all servers are up, the logs are empty, and there is no leader", """
                leader() = NOT_FOUND; restart(0) = NOT_POSSIBLE; restart(1) = NOT_POSSIBLE; restart(2) = NOT_POSSIBLE;
                restart($k) = NOT_POSSIBLE; restart($l) = NOT_POSSIBLE; lastIdentifier(0) = 0; lastIdentifier(1) = 0;
                lastIdentifier(2) = 0; lastIdentifier($k) = 0; lastIdentifier($l) = 0; commonLog(0, 0) = 0;
                commonLog($l, $l) = 0; crash(0) = $l
                """);
    }

    private void elections() {
        String choice = "An election makes one of the servers that are up the leader: the one with the greatest accepted epoch,"
                + " of several the one with the greatest last identifier, of several the one with the greatest number";
        s.holdForServers(choice, "elect() = $l; crash($l) = $l; elect() = $k");
        s.hold(choice, "elect() = 2; /0; create(1, NONE) = 1001; accept(0) = 1001; crash(2) = 2; elect() = 0");
        s.hold(choice, "elect() = 2; /0; create(1, NONE) = 1001; crash(0) = 2; crash(1) = 1; restart(0) = 2; elect() = 2");
        s.hold(choice, """
                elect() = 2; /0; create(1, NONE) = 1001; accept(0) = 1001; accept(1) = 1001; setData(1, 0) = 1002;
                crash(2) = 2; elect() = 1; setData(1, 0) = 2001; accept(0) = 2001; setData(2, 1) = 2002;
                setData(3, 2) = 2003; crash(1) = 1; restart(2) = 2; elect() = 0; lastIdentifier(2) = 2001
                """);
        // Server 2 has the greatest identifier and the greatest number, but an older epoch.
        s.hold(choice, """
                elect() = 2; /0; create(1, NONE) = 1001; crash(2) = 2; elect() = 1; crash(1) = 1; restart(2) = 2;
                elect() = 0; lastIdentifier(2) = 0
                """);
        // A transaction of a later epoch has a greater identifier, though its counter is smaller.
        s.hold(choice, """
                elect() = 2; /0; create(1, NONE) = 1001; setData(1, 0) = 1002; accept(0) = 1001; accept(0) = 1002;
                crash(2) = 2; elect() = 0; setData(2, 1) = 2001; crash(1) = 1; restart(1) = 2; elect() = 0
                """);
        s.hold("The new epoch is the greatest accepted epoch of the servers that are up, plus 1; the counter starts at 0", """
                elect() = 2; acceptedEpoch(2) = 1; /0; create(1, NONE) = 1001; setData(2, 0) = 1002; accept(1) = 1001;
                crash(2) = 2; elect() = 1; acceptedEpoch(1) = 2; acceptedEpoch(2) = 1; setData(3, 0) = 2001; crash(1) = 1;
                restart(2) = 2; elect() = 0; acceptedEpoch(0) = 3; acceptedEpoch(2) = 3; acceptedEpoch(1) = 2;
                setData(4, 0) = 3001
                """);
        s.hold("Then each other server that is up is synchronized with the leader and becomes active, in the order of their numbers", """
                reset(5) = 3; elect() = 4; /0; create(1, NONE) = 1001; setData(2, 0) = 1002; accept(1) = 1001;
                accept(1) = 1002; accept(2) = 1001; crash(3) = 4; crash(4) = 3; elect() = 1; commonLog(0, 1) = 2;
                commonLog(2, 1) = 2; lastIdentifier(3) = 0; heartbeat(0) = 0; heartbeat(2) = 0; heartbeat(3) = NOT_POSSIBLE;
                restart(3) = 4; heartbeat(3) = NOT_POSSIBLE; accept(3) = NOT_POSSIBLE
                """);
        endOfElection();
    }

    private void endOfElection() {
        String end = "Finally all active servers accept the new epoch, all transactions of the leader's log are committed, and each"
                + " active server, in the order of their numbers, applies all transactions of its log that it has not applied yet";
        s.hold(end, "crash(0) = 2; elect() = 2; acceptedEpoch(0) = 0; acceptedEpoch(1) = 1; acceptedEpoch(2) = 1;",
                "committedCount() = 0");
        s.hold(end, "elect() = 2;", Sentences.FULL_LOG, "committedCount() = 0; crash(0) = 2; crash(1) = 1; restart(0) = 2;",
                "elect() = 2; committedCount() = 40; appliedCount(0) = 40; appliedCount(1) = 0; appliedCount(2) = 40;",
                "versionAt(0) = 39; versionAt(2) = 39; versionAt(1) = NOT_FOUND");
        // Server 0 is down: it does not apply what its log has, and its epoch stays.
        s.hold(end, """
                elect() = 2; /0; create(1, NONE) = 1001; accept(0) = 1001; crash(0) = 2; crash(2) = 1; restart(2) = 2;
                elect() = 2; committedCount() = 1; appliedCount(1) = 1; appliedCount(0) = 0; dataAt(0) = NOT_FOUND;
                acceptedEpoch(0) = 1
                """);
        s.hold(end, """
                elect() = 2; openSession() = 0; /0; create(1, NONE) = 1001; watch(1, 0) = 1; /1; create(1, NONE) = 1002;
                watch(0, 0) = 2; accept(1) = 1001; accept(1) = 1002; crash(2) = 2; elect() = 1; eventCount(0) = 2;
                eventAt(0, 0) = 10020; eventAt(0, 1) = 10010
                """);
        s.hold(end, """
                elect() = 2; openSession() = 0; /0; create(1, NONE) = 1001; watch(1, 0) = 1; /1; create(1, NONE) = 1002;
                watch(0, 0) = 2; accept(0) = 1001; accept(0) = 1002; crash(2) = 2; elect() = 0; eventCount(0) = 2;
                eventAt(0, 0) = 10020; eventAt(0, 1) = 10010
                """);
        s.hold(end, """
                elect() = 2; openSession() = 0; /0; create(1, NONE) = 1001; accept(0) = 1001; heartbeat(0) = 1;
                watch(0, 0) = 1; watch(1, 0) = 2; setData(2, 0) = 1002; accept(0) = 1002; crash(2) = 2; elect() = 0;
                eventCount(0) = 2; eventAt(0, 0) = 10021; eventAt(0, 1) = 10010; dataAt(1) = 2
                """);
    }

    private void synchronization() {
        String meaning = "To synchronize a server with the leader means: the transactions of its log behind the longest common"
                + " beginning of its log and the leader's log are removed, and the remaining transactions of the leader's log are"
                + " appended";
        s.hold(meaning, "crash(0) = 2; elect() = 2; restart(0) = 3; synchronize(0) = 0; lastIdentifier(0) = 0");
        s.hold(meaning, "crash(0) = 2; elect() = 2;", Sentences.FULL_LOG, "restart(0) = 3; synchronize(0) = 40;",
                "lastIdentifier(0) = 1040; commonLog(0, 2) = 40; appliedCount(0) = 40; appliedCount(2) = 40");
        s.hold(meaning, "elect() = 2;", Sentences.FULL_LOG, "crash(2) = 2; elect() = 1; restart(2) = 3; synchronize(2) = 4000;",
                "lastIdentifier(2) = 0; commonLog(1, 2) = 0");
        s.hold(meaning, "elect() = 2;", Sentences.FULL_LOG, "crash(2) = 2; elect() = 1;", Sentences.fullLog(2, 40),
                "restart(2) = 3; commonLog(1, 2) = 0; synchronize(2) = 4040; lastIdentifier(2) = 2040; commonLog(1, 2) = 40;",
                "committedCount() = 40");
        s.hold(meaning, "elect() = 2;", Sentences.FULL_LOG, Sentences.accepts(1, 1, 1, 39), "crash(2) = 2; elect() = 1;",
                "setData(7, ANY_VERSION) = 2001; restart(2) = 3; commonLog(1, 2) = 39; synchronize(2) = 101;",
                "lastIdentifier(2) = 2001; dataAt(2) = 7");
        s.hold(meaning, "elect() = 2;", Sentences.FULL_LOG, Sentences.accepts(0, 1, 1, 40), "crash(0) = 2; restart(0) = 3;",
                "synchronize(0) = 0; lastIdentifier(0) = 1040");
        s.hold("(Transactions that have been applied are never removed by this.)", """
                elect() = 2; /0; create(1, NONE) = 1001; accept(0) = 1001; setData(2, 0) = 1002; appliedCount(2) = 1;
                crash(2) = 2; elect() = 0; restart(2) = 3; synchronize(2) = 100; appliedCount(2) = 1; dataAt(2) = 1;
                lastIdentifier(2) = 1001
                """);
    }

    private void endsOfLeadership() {
        String end = "When the leader goes down, or when fewer servers than a quorum are active, there is no leader any more";
        s.holdForServers(end, "elect() = $l; crash($l) = $l; leader() = NOT_FOUND; committedCount() = NOT_POSSIBLE");
        s.hold(end, "elect() = 2; crash(0) = 2; leader() = 2; crash(1) = 1; leader() = NOT_FOUND");
        s.hold(end, "reset(4) = 3; elect() = 3; crash(0) = 3; leader() = 3; crash(1) = 2; leader() = NOT_FOUND");
        s.hold(end, "reset(5) = 3; elect() = 4; crash(0) = 4; crash(1) = 3; leader() = 4; crash(2) = 2; leader() = NOT_FOUND");
        s.hold(end, "reset(5) = 3; elect() = 4; crash(0) = 4; crash(1) = 3; restart(0) = 4; restart(1) = 5; leader() = 4;",
                "crash(0) = 4; leader() = 4; crash(3) = 3; leader() = NOT_FOUND");
    }

    private void proposals() {
        s.hold("A proposal appends a transaction to the leader's log", """
                elect() = 2; openSession() = 0; /0; create(1, NONE) = 1001; lastIdentifier(2) = 1001; lastIdentifier(0) = 0;
                setData(2, 0) = 1002; lastIdentifier(2) = 1002; delete(1) = 1003; lastIdentifier(2) = 1003;
                closeSession(0) = 1004; lastIdentifier(2) = 1004; lastIdentifier(1) = 0; commonLog(2, 2) = 4;
                committedCount() = 0; appliedCount(2) = 0
                """);
        String identifier = "Its identifier has the present epoch; the counter grows by 1 before";
        s.hold(identifier, "elect() = 2;", Sentences.FULL_LOG, "lastIdentifier(2) = 1040");
        s.hold(identifier, """
                elect() = 2; crash(2) = 2; elect() = 1; /0; create(1, NONE) = 2001; create(1, NONE) = ALREADY_EXISTS;
                setData(1, 0) = 2002
                """);
        String next = "A follower whose log is shorter than that of the leader can accept the next transaction of the leader's log";
        s.hold(next, "elect() = 2; accept(0) = NOT_POSSIBLE;", Sentences.FULL_LOG, Sentences.accepts(0, 1, 1, 39),
                "lastIdentifier(0) = 1039; accept(0) = 1040; accept(0) = NOT_POSSIBLE; accept(2) = NOT_POSSIBLE;",
                "accept(1) = 1001");
        s.hold(next, "elect() = 2; /0; create(1, NONE) = 1001; accept(0) = 1001; accept(0) = NOT_POSSIBLE; delete(0) = 1002;",
                "accept(0) = 1002; accept(0) = NOT_POSSIBLE; accept(1) = 1001; lastIdentifier(1) = 1001");
    }

    private void commits() {
        String count = "The number of committed transactions is the greatest number c such that the logs of a quorum of active servers"
                + " (the leader included) have at least c transactions; it does not fall as long as the leader stays";
        s.hold(count, "elect() = 2; committedCount() = 0;", Sentences.FULL_LOG, "committedCount() = 0; accept(0) = 1001;",
                "committedCount() = 1; accept(1) = 1001; committedCount() = 1;", Sentences.accepts(1, 1, 2, 40),
                "committedCount() = 40");
        s.hold(count, """
                reset(4) = 3; elect() = 3; /0; create(1, NONE) = 1001; setData(1, 0) = 1002; accept(0) = 1001;
                accept(0) = 1002; committedCount() = 0; accept(1) = 1001; committedCount() = 1; accept(2) = 1001;
                committedCount() = 1; accept(2) = 1002; committedCount() = 2
                """);
        s.hold(count, """
                reset(5) = 3; elect() = 4; /0; create(1, NONE) = 1001; setData(1, 0) = 1002; accept(0) = 1001;
                accept(0) = 1002; committedCount() = 0; accept(1) = 1001; committedCount() = 1; accept(2) = 1001;
                accept(3) = 1001; committedCount() = 1; accept(3) = 1002; committedCount() = 2
                """);
        // Only active servers count: server 0 has the transaction, but is down.
        s.hold(count, """
                reset(5) = 3; elect() = 4; /0; create(1, NONE) = 1001; accept(0) = 1001; crash(0) = 4; accept(1) = 1001;
                committedCount() = 0; restart(0) = 5; committedCount() = 0; synchronize(0) = 0; committedCount() = 1
                """);
        s.hold(count, """
                reset(5) = 3; elect() = 4; /0; create(1, NONE) = 1001; accept(0) = 1001; accept(1) = 1001;
                committedCount() = 1; crash(0) = 4; committedCount() = 1; crash(1) = 3; committedCount() = 1;
                setData(1, 0) = 1002; accept(2) = 1001; accept(2) = 1002; committedCount() = 1; accept(3) = 1001;
                committedCount() = 1; accept(3) = 1002; committedCount() = 2
                """);
        s.hold("Whenever it grows, the leader applies the newly committed transactions at once", """
                reset(5) = 3; elect() = 4; /0; create(1, NONE) = 1001; setData(2, 0) = 1002; accept(0) = 1001;
                accept(0) = 1002; appliedCount(4) = 0; dataAt(4) = NOT_FOUND; accept(1) = 1001; appliedCount(4) = 1;
                dataAt(4) = 1; crash(2) = 4; restart(2) = 5; synchronize(2) = 2; committedCount() = 2; appliedCount(4) = 2;
                dataAt(4) = 2
                """);
        String heartbeat = "A follower learns it by a heartbeat: it then applies all committed transactions that its log contains and"
                + " that it has not applied yet";
        s.hold(heartbeat, "elect() = 2; heartbeat(0) = 0;", Sentences.FULL_LOG, Sentences.accepts(0, 1, 1, 40),
                "appliedCount(0) = 0; heartbeat(0) = 40; heartbeat(0) = 0; appliedCount(0) = 40; heartbeat(1) = 0;",
                "accept(1) = 1001;",
                "heartbeat(1) = 1; accept(1) = 1002; accept(1) = 1003; heartbeat(1) = 2; appliedCount(1) = 3");
        s.hold(heartbeat, """
                reset(5) = 3; elect() = 4; /0; create(1, NONE) = 1001; setData(2, 0) = 1002; accept(0) = 1001;
                accept(0) = 1002; heartbeat(0) = 0; accept(1) = 1001; heartbeat(0) = 1; dataAt(0) = 1; appliedCount(0) = 1;
                accept(1) = 1002; appliedCount(0) = 1; heartbeat(0) = 1; dataAt(0) = 2
                """);
    }

    private void paths() {
        String path = "A path is a sequence of 0 to 4 names; a name is a number from 0 to 5";
        s.hold(path, """
                clearPath() = 0; appendName(-1) = INVALID_ARGUMENT; appendName(6) = INVALID_ARGUMENT; appendName(0) = 1;
                appendName(5) = 2; appendName(0) = 3; appendName(5) = 4; appendName(5) = CAPACITY_EXCEEDED; clearPath() = 4
                """);
        s.hold(path, "elect() = 2; /5; create(1, NONE) = 1001; /5/5; create(2, NONE) = 1002; /5/5/5; create(3, NONE) = 1003;",
                "/5/5/5/5; create(4, NONE) = 1004; /0; create(5, NONE) = 1005; /0/0; create(6, NONE) = 1006;",
                Sentences.accepts(0, 1, 1, 6), "dataAt(2) = 6; /0/0/0; dataAt(2) = NOT_FOUND; /5; dataAt(2) = 1; /5/5;",
                "dataAt(2) = 2;",
                "/5/5/5; dataAt(2) = 3; childCount(2) = 1; /5/5/5/5; dataAt(2) = 4; childCount(2) = 0; /0; dataAt(2) = 5");
        String root = "The empty path is the root, which always exists";
        s.holdForServers(root, "childCount(0) = 0; childCount($l) = 0; nodeCount(0) = 0");
        s.hold(root, "elect() = 2; create(1, NONE) = ALREADY_EXISTS; delete(ANY_VERSION) = NOT_POSSIBLE;",
                "delete(0) = NOT_POSSIBLE; setData(1, ANY_VERSION) = NOT_POSSIBLE; childCount(2) = 0");
        String nodes = "All other nodes have a data value (0 to 999), a version, which starts at 0, and possibly an owner, which is a"
                + " session; a node with an owner is ephemeral";
        s.hold(nodes, """
                elect() = 2; openSession() = 0; /0; create(-1, NONE) = INVALID_ARGUMENT;
                create(1000, NONE) = INVALID_ARGUMENT; create(0, NONE) = 1001; /1; create(999, 0) = 1002; accept(0) = 1001;
                accept(0) = 1002; dataAt(2) = 999; versionAt(2) = 0; ownerAt(2) = 0; setData(1000, 0) = INVALID_ARGUMENT;
                setData(-1, 0) = INVALID_ARGUMENT; setData(0, 0) = 1003; accept(0) = 1003; dataAt(2) = 0; versionAt(2) = 1;
                /0; dataAt(2) = 0; versionAt(2) = 0; ownerAt(2) = NONE; setData(999, 0) = 1004; accept(0) = 1004;
                dataAt(2) = 999
                """);
        s.hold(nodes, "elect() = 2; openSession() = 0; /0; create(1, 0) = 1001; /0/0; create(1, NONE) = NOT_FOUND; /1;",
                "create(1, NONE) = 1002; /1/1; create(1, NONE) = 1003");
        s.hold("The parent of a node is the node whose path lacks its last name", """
                elect() = 2; /1/2; create(1, NONE) = NOT_FOUND; /2; create(1, NONE) = 1001; /1/2;
                create(1, NONE) = NOT_FOUND; /1; create(1, NONE) = 1002; /1/2; create(1, NONE) = 1003; /1/2/3/4;
                create(1, NONE) = NOT_FOUND; /1/2/3; create(1, NONE) = 1004; /1/2/3/4; create(1, NONE) = 1005
                """);
        s.hold("There is a path buffer with the path to which most methods refer", """
                elect() = 2; openSession() = 0; appendName(1) = 1; create(1, NONE) = 1001; setData(2, 0) = 1002;
                accept(0) = 1001; accept(0) = 1002; dataAt(2) = 2; versionAt(2) = 1; ownerAt(2) = NONE; childCount(2) = 0;
                watch(2, 0) = 1; appendName(0) = 2; dataAt(2) = NOT_FOUND; versionAt(2) = NOT_FOUND; ownerAt(2) = NOT_FOUND;
                childCount(2) = NOT_FOUND; delete(ANY_VERSION) = NOT_FOUND; setData(1, ANY_VERSION) = NOT_FOUND;
                create(3, NONE) = 1003; clearPath() = 2; childCount(2) = 1; dataAt(2) = NOT_POSSIBLE; appendName(1) = 1;
                dataAt(2) = 2
                """);
    }

    private void trees() {
        s.hold("The tree of a server results from its applied transactions", """
                elect() = 2; /0; create(1, NONE) = 1001; setData(2, 0) = 1002; delete(1) = 1003; nodeCount(2) = 0;
                accept(0) = 1001; nodeCount(2) = 1; dataAt(2) = 1; nodeCount(0) = 0; heartbeat(0) = 1; dataAt(0) = 1;
                accept(0) = 1002; dataAt(2) = 2; dataAt(0) = 1; accept(0) = 1003; nodeCount(2) = 0; nodeCount(0) = 1;
                heartbeat(0) = 2; nodeCount(0) = 0
                """);
        String proposed = "The proposed tree results from all transactions of the leader's log, in the same way, whether they are"
                + " applied or not; proposals are checked against it";
        s.hold(proposed, """
                elect() = 2; openSession() = 0; /0; create(1, NONE) = 1001; create(1, NONE) = ALREADY_EXISTS; /0/0;
                create(1, 0) = 1002; /0; delete(0) = NOT_EMPTY; setData(2, 0) = 1003; setData(2, 0) = BAD_VERSION;
                setData(2, 1) = 1004; closeSession(0) = 1005; delete(1) = BAD_VERSION; delete(2) = 1006;
                delete(2) = NOT_FOUND; create(1, NONE) = 1007; delete(0) = 1008; appliedCount(2) = 0; nodeCount(2) = 0
                """);
        s.hold(proposed, """
                elect() = 2; /0; create(1, NONE) = 1001; setData(2, 0) = 1002; accept(1) = 1001; crash(2) = 2; elect() = 1;
                create(1, NONE) = ALREADY_EXISTS; setData(3, 1) = BAD_VERSION; setData(3, 0) = 2001; delete(1) = 2002
                """);
        s.hold(proposed, "elect() = 2;", Sentences.TWELVE_NODES, "crash(2) = 2; elect() = 1;",
                Sentences.nodes(2, 12), "/1/1; create(1, NONE) = CAPACITY_EXCEEDED");
    }

    private void transactions() {
        s.hold("CREATE adds a node with data, version 0, and an owner or none", """
                elect() = 2; openSession() = 0; /0; create(7, NONE) = 1001; /1; create(8, 0) = 1002; accept(0) = 1001;
                nodeCount(2) = 1; dataAt(2) = NOT_FOUND; accept(0) = 1002; nodeCount(2) = 2; dataAt(2) = 8;
                versionAt(2) = 0; ownerAt(2) = 0; /0; dataAt(2) = 7; versionAt(2) = 0; ownerAt(2) = NONE;
                setData(9, 0) = 1003; delete(1) = 1004; create(4, 0) = 1005; accept(0) = 1003; accept(0) = 1004;
                accept(0) = 1005; dataAt(2) = 4; versionAt(2) = 0; ownerAt(2) = 0
                """);
        String set = "SET replaces the data of a node and adds 1 to its version";
        s.hold(set, "elect() = 2; openSession() = 0; /1; create(5, NONE) = 1001; /0; create(6, 0) = 1002;",
                "setData(999, 0) = 1003;",
                "setData(0, 1) = 1004;", Sentences.accepts(0, 1, 1, 3), "dataAt(2) = 999; versionAt(2) = 1; accept(0) = 1004;",
                "dataAt(2) = 0; versionAt(2) = 2; ownerAt(2) = 0; /1; dataAt(2) = 5; versionAt(2) = 0; nodeCount(2) = 2");
        s.hold(set, "elect() = 2;", Sentences.FULL_LOG, Sentences.accepts(0, 1, 1, 40), "versionAt(2) = 39; dataAt(2) = 40");
        s.hold("DELETE removes a node", """
                elect() = 2; /0; create(1, NONE) = 1001; /1; create(2, NONE) = 1002; delete(0) = 1003; accept(0) = 1001;
                accept(0) = 1002; nodeCount(2) = 2; accept(0) = 1003; nodeCount(2) = 1; dataAt(2) = NOT_FOUND; /0;
                dataAt(2) = 1; delete(0) = 1004; accept(0) = 1004; nodeCount(2) = 0; childCount(2) = NOT_FOUND
                """);
        String close = "CLOSE removes all nodes whose owner is a session, in the order of their paths (compared name by name; a path"
                + " comes before its extensions)";
        s.hold(close, "elect() = 2; openSession() = 0; closeSession(0) = 1001; accept(0) = 1001; nodeCount(2) = 0");
        s.hold(close, """
                elect() = 2; openSession() = 0; openSession() = 1; /0; create(1, NONE) = 1001; /0/5; create(1, NONE) = 1002;
                /0/5/0; create(1, 0) = 1003; /0/4; create(1, 0) = 1004; /1; create(1, 0) = 1005; /2; create(1, 1) = 1006;
                closeSession(0) = 1007;
                """, Sentences.accepts(0, 1, 1, 6), "nodeCount(2) = 6; accept(0) = 1007; nodeCount(2) = 3; ownerAt(2) = 1; /0/5;",
                "childCount(2) = 0; dataAt(2) = 1; /0; childCount(2) = 1; /; childCount(2) = 2");
        s.hold(close, "elect() = 2; openSession() = 0;", Sentences.each(0, 5, i -> "/" + i + "; create(1, 0) = " + (1001 + i)),
                "closeSession(0) = 1007;", Sentences.accepts(0, 1, 1, 6), "nodeCount(2) = 6; accept(0) = 1007;",
                "nodeCount(2) = 0; heartbeat(0) = 7; nodeCount(0) = 0");
        // No session can have more: a node with children has no owner, and the root has room for six.
        s.hold(close, "elect() = 2; openSession() = 0; /0; create(1, NONE) = 1001;",
                Sentences.each(1, 5, i -> "/" + i + "; create(1, 0) = " + (1001 + i)),
                Sentences.each(0, 5, i -> "/0/" + i + "; create(1, 0) = " + (1007 + i)),
                "/0/0/0; create(1, 0) = NOT_FOUND; /0; delete(0) = NOT_EMPTY; closeSession(0) = 1013; delete(0) = 1014;",
                Sentences.accepts(0, 1, 1, 12), "nodeCount(2) = 12; accept(0) = 1013; nodeCount(2) = 1; dataAt(2) = 1;",
                "accept(0) = 1014; nodeCount(2) = 0");
    }

    private void sessions() {
        s.hold("There are at most 6 sessions, numbered from 0 in the order in which they are opened",
                "eventCount(0) = INVALID_ARGUMENT;",
                Sentences.each(0, 5, i -> "openSession() = " + i + "; eventCount(" + (i + 1) + ") = INVALID_ARGUMENT"),
                "eventCount(5) = 0; openSession() = CAPACITY_EXCEEDED; eventCount(6) = INVALID_ARGUMENT");
        String closed = "A session is closed if the leader's log contains a CLOSE transaction of it; without a leader, sessions are"
                + " neither open nor closed";
        s.hold(closed, """
                elect() = 2; openSession() = 0; openSession() = 1; closeSession(1) = 1001; /0; create(1, 1) = NOT_POSSIBLE;
                closeSession(1) = NOT_POSSIBLE; create(1, 0) = 1002; crash(2) = 2; create(1, 0) = NOT_POSSIBLE;
                closeSession(0) = NOT_POSSIBLE; elect() = 1; create(1, 1) = 2001; closeSession(1) = 2002;
                closeSession(1) = NOT_POSSIBLE
                """);
        s.hold(closed, """
                elect() = 2; openSession() = 0; closeSession(0) = 1001; accept(0) = 1001; crash(2) = 2; elect() = 0; /0;
                create(1, 0) = NOT_POSSIBLE; closeSession(0) = NOT_POSSIBLE
                """);
    }

    private void watches() {
        s.hold("A watch belongs to a server, a session and a path", """
                elect() = 2; openSession() = 0; openSession() = 1; /0; watch(2, 0) = 1; watch(0, 1) = 2; /1;
                watch(2, 1) = 3; /0; create(1, NONE) = 1001; accept(0) = 1001; eventCount(0) = 1; eventCount(1) = 0;
                heartbeat(0) = 1; eventCount(0) = 1; eventCount(1) = 1; /1; create(1, NONE) = 1002; accept(0) = 1002;
                eventCount(0) = 1; eventCount(1) = 2
                """);
        String room = "There are at most 10 watches";
        s.hold(room, "openSession() = 0; openSession() = 1; /0;", Sentences.each(1, 5, i -> "watch(0, 0) = " + i), "/1/1/1/1;",
                Sentences.each(6, 9, i -> "watch(1, 1) = " + i), "watch(2, 0) = 10; watch(2, 0) = CAPACITY_EXCEEDED;",
                "watch(0, 1) = CAPACITY_EXCEEDED; crash(2) = 2; watch(0, 1) = 10; watch(0, 1) = CAPACITY_EXCEEDED");
        s.hold(room, "elect() = 2; openSession() = 0; /0;", Sentences.each(1, 10, i -> "watch(2, 0) = " + i),
                "watch(2, 0) = CAPACITY_EXCEEDED; create(1, NONE) = 1001; watch(2, 0) = CAPACITY_EXCEEDED; accept(0) = 1001;",
                Sentences.each(1, 10, i -> "watch(2, 0) = " + i), "watch(2, 0) = CAPACITY_EXCEEDED; eventCount(0) = 10");
        String fire = "When the server applies a transaction by which a node with this path is added, changed or removed, all watches of"
                + " the server for this path fire, in the order in which they were set: each is removed and adds an event to its session";
        s.hold(fire, """
                elect() = 2; openSession() = 0; openSession() = 1; /0; watch(2, 0) = 1; watch(2, 1) = 2; watch(2, 0) = 3;
                watch(1, 0) = 4; create(1, NONE) = 1001; eventCount(0) = 0; accept(0) = 1001; eventCount(0) = 2;
                eventCount(1) = 1; watch(2, 1) = 2; setData(1, 0) = 1002; accept(0) = 1002; eventCount(0) = 2;
                eventCount(1) = 2; watch(2, 0) = 2; delete(1) = 1003; accept(0) = 1003; eventCount(0) = 3;
                eventAt(0, 2) = 10032; eventAt(1, 1) = 10021; watch(2, 0) = 2
                """);
        s.hold(fire, """
                elect() = 2; openSession() = 0; openSession() = 1; /0; create(1, 0) = 1001; /1; create(1, 0) = 1002;
                accept(0) = 1001; accept(0) = 1002; watch(2, 1) = 1; watch(2, 0) = 2; /0; watch(2, 1) = 3; /0/0;
                watch(2, 1) = 4; /; closeSession(0) = 1003; accept(0) = 1003; eventCount(1) = 2; eventAt(1, 0) = 10032;
                eventAt(1, 1) = 10032; eventCount(0) = 1; eventAt(0, 0) = 10032
                """);
        s.hold("When a server goes down, its watches are removed without an event", """
                elect() = 2; openSession() = 0; /0; watch(0, 0) = 1; watch(1, 0) = 2; watch(0, 0) = 3; crash(0) = 2;
                eventCount(0) = 0; watch(1, 0) = 2; restart(0) = 3; synchronize(0) = 0; create(1, NONE) = 1001;
                accept(0) = 1001; heartbeat(0) = 1; eventCount(0) = 0; accept(1) = 1001; heartbeat(1) = 1; eventCount(0) = 2
                """);
    }

    private void events() {
        s.hold("An event consists of a kind (CREATED, CHANGED or DELETED) and the identifier of the transaction", """
                elect() = 2; openSession() = 0; crash(2) = 2; elect() = 1; /0; watch(1, 0) = 1; create(1, NONE) = 2001;
                accept(0) = 2001; eventAt(0, 0) = 20010; watch(1, 0) = 1; setData(1, 0) = 2002; accept(0) = 2002;
                eventAt(0, 1) = 20021; watch(1, 0) = 1; delete(1) = 2003; accept(0) = 2003; eventAt(0, 2) = 20032
                """);
        String latest = "The events of a session are numbered from 0; only the latest 8 of them can be read";
        s.hold(latest, "elect() = 2; openSession() = 0; /0; create(1, NONE) = 1001;", Sentences.each(1, 7,
                i -> "watch(2, 0) = " + i),
                "accept(0) = 1001; eventCount(0) = 7; eventAt(0, 0) = 10010; eventAt(0, 6) = 10010; eventAt(0, 7) = NOT_FOUND;",
                "watch(2, 0) = 1; setData(1, 0) = 1002; accept(0) = 1002; eventAt(0, 0) = 10010; eventAt(0, 7) = 10021;",
                "eventAt(0, 8) = NOT_FOUND; watch(2, 0) = 1; setData(1, 1) = 1003; accept(0) = 1003;",
                "eventAt(0, 0) = NOT_FOUND;",
                "eventAt(0, 1) = 10010; eventAt(0, 6) = 10010; eventAt(0, 7) = 10021; eventAt(0, 8) = 10031;",
                "eventAt(0, 9) = NOT_FOUND");
        // Ten events at once.
        s.hold(latest, "elect() = 2; openSession() = 0; /0;", Sentences.each(1, 10, i -> "watch(2, 0) = " + i),
                "create(1, NONE) = 1001; accept(0) = 1001; eventCount(0) = 10; eventAt(0, 0) = NOT_FOUND;",
                "eventAt(0, 1) = NOT_FOUND;",
                Sentences.each(2, 9, i -> "eventAt(0, " + i + ") = 10010"), "eventAt(0, 10) = NOT_FOUND");
    }
}
