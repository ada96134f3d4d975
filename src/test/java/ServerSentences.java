/** The sentences of promises 1 to 13 and 29: servers, elections, logs and commits. */
final class ServerSentences {
    private static final String SERVER = "server: number of a server";
    private static final String NO_SUCH_SERVER = "INVALID_ARGUMENT if there is no such server";
    /** The leader 2 has two transactions, server 0 one of them, and has applied it; server 1 has none. */
    private static final String TWO_TRANSACTIONS = """
            elect() = 2; openSession() = 0; /0; create(1, NONE) = 1001; setData(2, 0) = 1002; accept(0) = 1001;
            heartbeat(0) = 1;
            """;

    private final Sentences s;

    private ServerSentences(Sentences sentences) {
        s = sentences;
    }

    static void all(Sentences sentences) {
        ServerSentences group = new ServerSentences(sentences);
        group.newObject();
        group.reset();
        group.crash();
        group.restart();
        group.elect();
        group.synchronize();
        group.synchronizedCommits();
        group.accept();
        group.heartbeat();
        group.leader();
        group.lastIdentifier();
        group.appliedCount();
        group.committedCount();
        group.acceptedEpoch();
        group.commonLog();
    }

    private void newObject() {
        s.section("Promise 1");
        String sentence = "Creates a service with 3 servers, without sessions and watches, and with an empty path buffer";
        s.hold(sentence, "crash(3) = INVALID_ARGUMENT; crash(2) = 2; crash(1) = 1; crash(0) = 0");
        s.hold(sentence, "reset(3) = 3; reset(4) = 3");
        s.hold(sentence, "eventCount(0) = INVALID_ARGUMENT; closeSession(0) = INVALID_ARGUMENT; openSession() = 0");
        s.hold(sentence, "openSession() = 0; appendName(0) = 1; watch(0, 0) = 1");
        s.hold(sentence, "clearPath() = 0");
        s.hold(sentence, "dataAt(0) = NOT_POSSIBLE; childCount(0) = 0; appendName(0) = 1");
    }

    private void reset() {
        s.section("Promise 2");
        String sentence = "Starts anew with another number of servers; everything else is as in a new service (no sessions, no"
                + " watches, an empty path buffer)";
        String busy = TWO_TRANSACTIONS + "openSession() = 1; watch(2, 1) = 1; watch(0, 0) = 2; accept(0) = 1002; appendName(5) = 2;"
                + "create(3, 1) = 1003; closeSession(1) = 1004; crash(1) = 2;";
        String busyFive = "reset(5) = 3; elect() = 4; openSession() = 0; /0; watch(3, 0) = 1; watch(1, 0) = 2; create(1, NONE) = 1001;"
                + "accept(3) = 1001; accept(0) = 1001; heartbeat(3) = 1; crash(2) = 4;";
        for (int servers = 3; servers <= 5; servers++) {
            s.holdAlike(sentence, busy + "reset(" + servers + ") = 3", "reset(" + servers + ") = 3");
            s.holdAlike(sentence, busyFive + "reset(" + servers + ") = 5", "reset(" + servers + ") = 3");
        }
        // Through 3 servers and back: the two that were away are new.
        s.holdAlike(sentence, busyFive + "crash(3) = 3; reset(3) = 5; elect() = 2; reset(5) = 3", "reset(5) = 3");
        s.hold(sentence, "reset(5) = 3; reset(3) = 5; crash(0) = 2; elect() = 2; crash(1) = 1; leader() = NOT_FOUND");

        s.hold("servers: 3 to 5", "reset(2) = INVALID_ARGUMENT; reset(3) = 3; reset(4) = 3; reset(5) = 4;",
                "reset(6) = INVALID_ARGUMENT");
        s.hold("Returns the previous number of servers", "reset(3) = 3; reset(5) = 3; reset(5) = 5; reset(4) = 5;",
                "reset(4) = 4; reset(3) = 4; reset(6) = INVALID_ARGUMENT; reset(5) = 3");
        s.hold("INVALID_ARGUMENT if servers is out of range", busy, """
                reset(2) = INVALID_ARGUMENT; reset(6) = INVALID_ARGUMENT; reset(1) = INVALID_ARGUMENT;
                reset(0) = INVALID_ARGUMENT; reset(-1) = INVALID_ARGUMENT; reset(-3) = INVALID_ARGUMENT;
                reset(7) = INVALID_ARGUMENT; reset(259) = INVALID_ARGUMENT; reset(MIN) = INVALID_ARGUMENT;
                reset(MAX) = INVALID_ARGUMENT; leader() = 2; lastIdentifier(2) = 1004; clearPath() = 2
                """);
    }

    private void crash() {
        s.section("Promise 3");
        s.hold("Takes a server down", """
                elect() = 2; openSession() = 0; appendName(0) = 1; crash(0) = 2; heartbeat(0) = NOT_POSSIBLE;
                accept(0) = NOT_POSSIBLE; synchronize(0) = NOT_POSSIBLE; watch(0, 0) = NOT_POSSIBLE; leader() = 2;
                crash(2) = 1; leader() = NOT_FOUND; elect() = NOT_POSSIBLE
                """);
        s.holdForServers(SERVER, "outside crash(@); crash(0) = $l; crash($l) = $k");
        s.hold("Returns the number of servers that are up then", "crash(2) = 2; crash(0) = 1; crash(1) = 0; restart(0) = 1;",
                "crash(0) = 0");
        s.hold("Returns the number of servers that are up then", "reset(5) = 3; crash(4) = 4; crash(0) = 3; crash(3) = 2;",
                "crash(1) = 1; crash(2) = 0");
        s.holdForServers(NO_SUCH_SERVER, "elect() = $l; outside crash(@); leader() = $l; crash(0) = $l; outside crash(@)");
        s.hold("NOT_POSSIBLE if it is down", """
                crash(0) = 2; crash(0) = NOT_POSSIBLE; crash(1) = 1; crash(2) = 0; crash(0) = NOT_POSSIBLE;
                crash(1) = NOT_POSSIBLE; crash(2) = NOT_POSSIBLE; restart(1) = 1; crash(1) = 0; crash(1) = NOT_POSSIBLE
                """);
    }

    private void restart() {
        s.section("Promise 4");
        s.hold("Brings a server up; it is not active", TWO_TRANSACTIONS, """
                crash(0) = 2; restart(0) = 3; heartbeat(0) = NOT_POSSIBLE; accept(0) = NOT_POSSIBLE; watch(0, 0) = 1;
                lastIdentifier(0) = 1001; crash(1) = 2; leader() = NOT_FOUND; restart(1) = 3; leader() = NOT_FOUND;
                elect() = 2
                """);
        s.hold("Brings a server up; it is not active", "elect() = 2; crash(2) = 2; restart(2) = 3; leader() = NOT_FOUND;",
                "heartbeat(2) = NOT_POSSIBLE; heartbeat(0) = NOT_POSSIBLE; elect() = 2; acceptedEpoch(0) = 2");
        s.holdForServers(SERVER, "crash(0) = $l; crash($l) = $k; outside restart(@); restart(0) = $l; restart($l) = $n");
        s.hold("Returns the number of servers that are up then", """
                reset(4) = 3; crash(0) = 3; crash(1) = 2; crash(2) = 1; crash(3) = 0; restart(3) = 1; restart(0) = 2;
                restart(2) = 3; restart(1) = 4
                """);
        s.holdForServers(NO_SUCH_SERVER, "crash($l) = $l; outside restart(@); restart($l) = $n; outside restart(@)");
        s.hold("NOT_POSSIBLE if it is up", """
                restart(0) = NOT_POSSIBLE; restart(2) = NOT_POSSIBLE; crash(0) = 2; restart(1) = NOT_POSSIBLE;
                restart(0) = 3; restart(0) = NOT_POSSIBLE; elect() = 2; restart(2) = NOT_POSSIBLE; restart(0) = NOT_POSSIBLE
                """);
    }

    private void elect() {
        s.section("Promise 5");
        s.holdForServers("Holds an election", "leader() = NOT_FOUND; elect() = $l; leader() = $l; acceptedEpoch(0) = 1;",
                "acceptedEpoch($l) = 1; heartbeat(0) = 0; committedCount() = 0");
        String answer = "Returns the number of the leader";
        s.holdForServers(answer, "elect() = $l; crash($l) = $l; elect() = $k; leader() = $k");
        s.hold(answer, "crash(1) = 2; crash(2) = 1; restart(1) = 2; elect() = 1; crash(1) = 1; restart(2) = 2; elect() = 0;",
                "leader() = 0");
        String refused = "NOT_POSSIBLE if there is a leader, or if fewer servers than a quorum are up";
        s.hold(refused, "elect() = 2; elect() = NOT_POSSIBLE; crash(0) = 2; elect() = NOT_POSSIBLE; leader() = 2;",
                "acceptedEpoch(2) = 1");
        s.hold(refused, """
                crash(0) = 2; crash(1) = 1; elect() = NOT_POSSIBLE; crash(2) = 0; elect() = NOT_POSSIBLE;
                leader() = NOT_FOUND; acceptedEpoch(2) = 0; restart(0) = 1; elect() = NOT_POSSIBLE; restart(1) = 2;
                elect() = 1
                """);
        s.hold(refused, "reset(4) = 3; crash(0) = 3; crash(3) = 2; elect() = NOT_POSSIBLE; restart(0) = 3; elect() = 2");
        s.hold(refused, "reset(5) = 3; crash(0) = 4; crash(3) = 3; crash(4) = 2; elect() = NOT_POSSIBLE; restart(0) = 3;",
                "elect() = 2");
    }

    private void synchronize() {
        s.section("Promise 6");
        String sentence = "Synchronizes a server with the leader and makes it active; it accepts the present epoch";
        s.hold(sentence, """
                elect() = 2; crash(2) = 2; elect() = 1; acceptedEpoch(2) = 1; /0; create(1, NONE) = 2001; restart(2) = 3;
                acceptedEpoch(2) = 1; synchronize(2) = 1; acceptedEpoch(2) = 2; lastIdentifier(2) = 2001; heartbeat(2) = 0;
                crash(0) = 2; leader() = 1
                """);
        s.hold(sentence, "crash(0) = 2; elect() = 2; restart(0) = 3; acceptedEpoch(0) = 0; synchronize(0) = 0;",
                "acceptedEpoch(0) = 1");
        s.holdForServers(SERVER, "elect() = $l; outside synchronize(@); crash(0) = $l; restart(0) = $n; synchronize(0) = 0;",
                "crash($l) = $l; elect() = $k; restart($l) = $n; synchronize($l) = 0");
        String answer = "Returns 100 times the number of transactions that were removed from its log plus the number of those that were"
                + " appended";
        s.hold(answer, "crash(0) = 2; elect() = 2; restart(0) = 3; synchronize(0) = 0");
        s.hold(answer, "crash(0) = 2; elect() = 2;", Sentences.FULL_LOG, "restart(0) = 3; synchronize(0) = 40");
        s.hold(answer, "elect() = 2;", Sentences.FULL_LOG, "crash(2) = 2; elect() = 1; restart(2) = 3; synchronize(2) = 4000");
        s.hold(answer, "elect() = 2;", Sentences.FULL_LOG, "crash(2) = 2; elect() = 1;", Sentences.fullLog(2, 40),
                "restart(2) = 3; synchronize(2) = 4040");
        s.hold(answer, TWO_TRANSACTIONS, "crash(2) = 2; elect() = 0; setData(3, 0) = 2001; setData(4, 1) = 2002;",
                "restart(2) = 3; synchronize(2) = 102");
        s.holdForServers(NO_SUCH_SERVER, "elect() = $l; crash(0) = $l; restart(0) = $n; outside synchronize(@)");
        String refused = "NOT_POSSIBLE if there is no leader, or if the server is down or active";
        s.hold(refused, "synchronize(0) = NOT_POSSIBLE; synchronize(2) = NOT_POSSIBLE; elect() = 2; crash(2) = 2;",
                "synchronize(0) = NOT_POSSIBLE; synchronize(2) = NOT_POSSIBLE; acceptedEpoch(2) = 1");
        s.hold(refused, TWO_TRANSACTIONS, "crash(0) = 2; synchronize(0) = NOT_POSSIBLE; lastIdentifier(0) = 1001");
        s.hold(refused, TWO_TRANSACTIONS, """
                synchronize(0) = NOT_POSSIBLE; synchronize(1) = NOT_POSSIBLE; synchronize(2) = NOT_POSSIBLE;
                lastIdentifier(1) = 0; crash(1) = 2; restart(1) = 3; synchronize(1) = 2; synchronize(1) = NOT_POSSIBLE
                """);
    }

    private void synchronizedCommits() {
        String sentence = "Then the number of committed transactions is found anew, and the server applies all committed transactions"
                + " that it has not applied yet (after the leader)";
        s.hold(sentence, "crash(0) = 2; elect() = 2;", Sentences.FULL_LOG, "committedCount() = 0; restart(0) = 3;",
                "committedCount() = 0;",
                "synchronize(0) = 40; committedCount() = 40; appliedCount(2) = 40; appliedCount(0) = 40; appliedCount(1) = 0");
        s.hold(sentence, """
                crash(0) = 2; elect() = 2; openSession() = 0; restart(0) = 3; /0; create(1, NONE) = 1001; watch(0, 0) = 1;
                /1; create(1, NONE) = 1002; watch(2, 0) = 2; synchronize(0) = 2; eventCount(0) = 2; eventAt(0, 0) = 10020;
                eventAt(0, 1) = 10010
                """);
        // With 4 servers a second follower with the log is not enough to make a quorum of three.
        s.hold(sentence, """
                reset(4) = 3; crash(0) = 3; elect() = 3; /0; create(1, NONE) = 1001; restart(0) = 4; synchronize(0) = 1;
                committedCount() = 0; appliedCount(0) = 0; appliedCount(3) = 0; accept(1) = 1001; committedCount() = 1;
                appliedCount(3) = 1; appliedCount(0) = 0
                """);
        s.hold(sentence, """
                reset(5) = 3; elect() = 4; crash(0) = 4; /0; create(1, NONE) = 1001; accept(1) = 1001; accept(2) = 1001;
                setData(2, 0) = 1002; restart(0) = 5; synchronize(0) = 2; committedCount() = 1; appliedCount(0) = 1;
                dataAt(0) = 1; lastIdentifier(0) = 1002
                """);
        s.hold(sentence, TWO_TRANSACTIONS, "accept(0) = 1002; crash(0) = 2; restart(0) = 3; appliedCount(0) = 1;",
                "synchronize(0) = 0; appliedCount(0) = 2; dataAt(0) = 2; committedCount() = 2");
    }

    private void accept() {
        s.section("Promise 7");
        s.hold("Lets a follower accept the next transaction of the leader's log", TWO_TRANSACTIONS, """
                lastIdentifier(0) = 1001; accept(0) = 1002; lastIdentifier(0) = 1002; commonLog(0, 2) = 2; accept(1) = 1001;
                lastIdentifier(1) = 1001; commonLog(1, 2) = 1; appliedCount(1) = 0; appliedCount(0) = 1
                """);
        s.holdForServers(SERVER, "elect() = $l; /0; create(1, NONE) = 1001; outside accept(@); accept(0) = 1001;",
                "accept($k) = 1001;",
                "crash($l) = $l; elect() = $k; restart($l) = $n; synchronize($l) = 0; setData(1, 0) = 2001; accept($l) = 2001");
        s.hold("Returns the identifier of the transaction", "elect() = 2;", Sentences.FULL_LOG, Sentences.accepts(1, 1, 1, 40),
                "accept(0) = 1001; crash(2) = 2; elect() = 1; lastIdentifier(0) = 1040");
        s.holdForServers(NO_SUCH_SERVER, "elect() = $l; /0; create(1, NONE) = 1001; outside accept(@); accept(0) = 1001;",
                "outside accept(@)");
        String refused = "NOT_POSSIBLE if it is no follower or its log is as long as that of the leader";
        s.hold(refused, "accept(0) = NOT_POSSIBLE; elect() = 2; accept(0) = NOT_POSSIBLE; accept(2) = NOT_POSSIBLE");
        s.hold(refused, TWO_TRANSACTIONS, """
                accept(2) = NOT_POSSIBLE; accept(0) = 1002; accept(0) = NOT_POSSIBLE; crash(1) = 2;
                accept(1) = NOT_POSSIBLE; restart(1) = 3; accept(1) = NOT_POSSIBLE; setData(3, 1) = 1003; accept(0) = 1003;
                accept(0) = NOT_POSSIBLE; crash(2) = 2; accept(1) = NOT_POSSIBLE; accept(2) = NOT_POSSIBLE
                """);
        s.hold(refused, "elect() = 2;", Sentences.FULL_LOG, Sentences.accepts(0, 1, 1, 40), "accept(0) = NOT_POSSIBLE;",
                Sentences.accepts(1, 1, 1, 40), "accept(1) = NOT_POSSIBLE");
    }

    private void heartbeat() {
        s.section("Promise 8");
        s.hold("Sends a heartbeat to a follower", TWO_TRANSACTIONS, """
                accept(0) = 1002; appliedCount(0) = 1; dataAt(0) = 1; heartbeat(0) = 1; appliedCount(0) = 2; dataAt(0) = 2;
                versionAt(0) = 1; nodeCount(1) = 0; appliedCount(1) = 0
                """);
        s.holdForServers(SERVER, "elect() = $l; outside heartbeat(@); heartbeat(0) = 0; heartbeat($k) = 0; crash($l) = $l;",
                "elect() = $k; restart($l) = $n; synchronize($l) = 0; heartbeat($l) = 0");
        String answer = "Returns the number of transactions that it applies by this";
        s.hold(answer, "elect() = 2; heartbeat(0) = 0;", Sentences.FULL_LOG, "heartbeat(0) = 0;", Sentences.accepts(0, 1, 1,
                40),
                "heartbeat(0) = 40; heartbeat(0) = 0; heartbeat(1) = 0; accept(1) = 1001; heartbeat(1) = 1; heartbeat(1) = 0");
        s.hold(answer, """
                reset(5) = 3; elect() = 4; /0; create(1, NONE) = 1001; setData(2, 0) = 1002; setData(3, 1) = 1003;
                accept(0) = 1001; accept(0) = 1002; accept(0) = 1003; heartbeat(0) = 0; accept(1) = 1001; accept(1) = 1002;
                heartbeat(0) = 2; heartbeat(1) = 2; accept(2) = 1001; heartbeat(2) = 1; heartbeat(3) = 0
                """);
        s.holdForServers(NO_SUCH_SERVER, "elect() = $l; outside heartbeat(@); heartbeat(0) = 0");
        s.hold("NOT_POSSIBLE if it is no follower", TWO_TRANSACTIONS, """
                heartbeat(2) = NOT_POSSIBLE; crash(1) = 2; heartbeat(1) = NOT_POSSIBLE; restart(1) = 3;
                heartbeat(1) = NOT_POSSIBLE; crash(2) = 2; heartbeat(0) = NOT_POSSIBLE; heartbeat(1) = NOT_POSSIBLE;
                heartbeat(2) = NOT_POSSIBLE
                """);
        s.hold("NOT_POSSIBLE if it is no follower", "heartbeat(0) = NOT_POSSIBLE; heartbeat(1) = NOT_POSSIBLE;",
                "heartbeat(2) = NOT_POSSIBLE");
    }

    private void leader() {
        s.section("Promise 9");
        s.holdForServers("Returns the number of the leader", "elect() = $l; leader() = $l; crash($l) = $l; elect() = $k;",
                "leader() = $k");
        s.hold("Returns the number of the leader", "elect() = 2; /0; create(1, NONE) = 1001; accept(0) = 1001; crash(2) = 2;",
                "elect() = 0; leader() = 0");
        s.hold("NOT_FOUND if there is none", "leader() = NOT_FOUND; elect() = 2; crash(2) = 2; leader() = NOT_FOUND;",
                "elect() = 1;",
                "crash(0) = 1; leader() = NOT_FOUND; restart(0) = 2; leader() = NOT_FOUND; elect() = 1; reset(3) = 3;",
                "leader() = NOT_FOUND");
    }

    private void lastIdentifier() {
        s.section("Promise 10");
        s.hold("Returns the last identifier of a server", TWO_TRANSACTIONS,
                "lastIdentifier(2) = 1002; lastIdentifier(0) = 1001; lastIdentifier(1) = 0");
        s.holdForServers(SERVER, "outside lastIdentifier(@); lastIdentifier(0) = 0; lastIdentifier($l) = 0");
        s.hold("Returns the last identifier", "lastIdentifier(0) = 0; elect() = 2;", Sentences.FULL_LOG, Sentences.accepts(0, 1,
                1, 39),
                "lastIdentifier(2) = 1040; lastIdentifier(0) = 1039; crash(0) = 2; lastIdentifier(0) = 1039;",
                "lastIdentifier(1) = 0");
        s.holdForServers(NO_SUCH_SERVER, "elect() = $l; /0; create(1, NONE) = 1001; outside lastIdentifier(@);",
                "lastIdentifier($l) = 1001");
    }

    private void appliedCount() {
        s.section("Promise 11");
        s.hold("Returns the number of transactions that a server has applied", TWO_TRANSACTIONS,
                "appliedCount(0) = 1; appliedCount(1) = 0; appliedCount(2) = 1; accept(0) = 1002; appliedCount(0) = 1;",
                "appliedCount(2) = 2");
        s.holdForServers(SERVER, "outside appliedCount(@); appliedCount(0) = 0; appliedCount($l) = 0");
        s.hold("Returns the number of applied transactions", "elect() = 2;", Sentences.FULL_LOG, Sentences.accepts(0, 1, 1, 39),
                "appliedCount(2) = 39; appliedCount(0) = 0; heartbeat(0) = 39; appliedCount(0) = 39; accept(0) = 1040;",
                "appliedCount(2) = 40; crash(2) = 2; appliedCount(2) = 40; appliedCount(1) = 0");
        s.holdForServers(NO_SUCH_SERVER, "elect() = $l; outside appliedCount(@); appliedCount($l) = 0");
    }

    private void committedCount() {
        s.section("Promise 12");
        s.hold("Returns the number of committed transactions", "elect() = 2; committedCount() = 0;", Sentences.FULL_LOG,
                "committedCount() = 0; accept(0) = 1001; committedCount() = 1;", Sentences.accepts(0, 1, 2, 40),
                "committedCount() = 40; accept(1) = 1001; committedCount() = 40");
        s.hold("NOT_POSSIBLE if there is no leader", TWO_TRANSACTIONS, """
                committedCount() = 1; crash(0) = 2; committedCount() = 1; crash(1) = 1; committedCount() = NOT_POSSIBLE;
                restart(0) = 2; committedCount() = NOT_POSSIBLE; elect() = 2; committedCount() = 2; crash(2) = 1;
                committedCount() = NOT_POSSIBLE
                """);
        s.hold("NOT_POSSIBLE if there is no leader", "committedCount() = NOT_POSSIBLE; elect() = 2; committedCount() = 0;",
                "reset(3) = 3; committedCount() = NOT_POSSIBLE");
    }

    private void acceptedEpoch() {
        s.section("Promise 13");
        s.hold("Returns the accepted epoch of a server", "crash(0) = 2; elect() = 2; acceptedEpoch(0) = 0;",
                "acceptedEpoch(1) = 1;",
                "acceptedEpoch(2) = 1; restart(0) = 3; acceptedEpoch(0) = 0; synchronize(0) = 0; acceptedEpoch(0) = 1");
        s.holdForServers(SERVER, "outside acceptedEpoch(@); acceptedEpoch(0) = 0; acceptedEpoch($l) = 0");
        s.hold("Returns the accepted epoch", Sentences.each(1, 40,
                i -> "elect() = 2; acceptedEpoch(2) = " + i + "; crash(2) = 2;"
                + "acceptedEpoch(2) = " + i + "; restart(2) = 3"), "acceptedEpoch(0) = 40; acceptedEpoch(1) = 40");
        s.holdForServers(NO_SUCH_SERVER, "elect() = $l; outside acceptedEpoch(@); acceptedEpoch($l) = 1");
    }

    private void commonLog() {
        s.section("Promise 29");
        String sentence = "Counts the transactions that the logs of two servers have in common at their beginning";
        s.hold(sentence, TWO_TRANSACTIONS, "commonLog(0, 2) = 1; commonLog(2, 0) = 1; commonLog(1, 2) = 0;",
                "commonLog(0, 1) = 0");
        s.hold(sentence, TWO_TRANSACTIONS, """
                crash(2) = 2; elect() = 0; setData(2, 0) = 2001; setData(3, 1) = 2002; commonLog(0, 2) = 1;
                commonLog(2, 0) = 1; commonLog(0, 1) = 1; accept(1) = 2001; commonLog(0, 1) = 2; commonLog(1, 2) = 1
                """);
        s.holdForServers(SERVER, "outside commonLog(@, 0); outside commonLog(@, $l); commonLog(0, 0) = 0;",
                "commonLog($l, 0) = 0");
        s.holdForServers("other: number of a server", "outside commonLog(0, @); outside commonLog($l, @);",
                "commonLog(0, $l) = 0; commonLog($l, $l) = 0");
        String answer = "Returns the length of the longest common beginning of both logs";
        s.hold(answer, "commonLog(0, 1) = 0; elect() = 2;", Sentences.FULL_LOG, "commonLog(2, 2) = 40; commonLog(0, 2) = 0;",
                Sentences.accepts(0, 1, 1, 39), "commonLog(0, 2) = 39; commonLog(2, 0) = 39; accept(0) = 1040;",
                "commonLog(0, 2) = 40; commonLog(2, 0) = 40; commonLog(0, 0) = 40; commonLog(1, 1) = 0");
        s.hold(answer, "elect() = 2;", Sentences.FULL_LOG, "crash(2) = 2; elect() = 1;", Sentences.fullLog(2, 40),
                "commonLog(1, 2) = 0; commonLog(2, 1) = 0; commonLog(1, 1) = 40");
        s.holdForServers(NO_SUCH_SERVER, "commonLog(-1, $n) = INVALID_ARGUMENT; commonLog($n, -1) = INVALID_ARGUMENT;",
                "commonLog($n, $n) = INVALID_ARGUMENT; commonLog(-1, -1) = INVALID_ARGUMENT; commonLog($l, 0) = 0");
    }
}
