/** Promises 1 to 13 and 29: servers, elections, synchronization, logs and commits. */
public final class ServersTest {
    private static final Script SCRIPT = new Script();

    public static void main(String[] args) {
        promise1NewObject();
        promise2Reset();
        promise3Crash();
        promise4Restart();
        promise5Elect();
        promise5ElectionApplies();
        promise6Synchronize();
        promise7Accept();
        promise8Heartbeat();
        promises9To13Readers();
        promise29CommonLog();
        SCRIPT.finish();
    }

    private static void promise1NewObject() {
        SCRIPT.run("promise 1", """
                leader() = NOT_FOUND; committedCount() = NOT_POSSIBLE;
                lastIdentifier(0) = 0; lastIdentifier(2) = 0; lastIdentifier(3) = INVALID_ARGUMENT;
                appliedCount(2) = 0; acceptedEpoch(2) = 0; nodeCount(2) = 0; childCount(2) = 0;
                eventCount(0) = INVALID_ARGUMENT; openSession() = 0; watch(0, 0) = NOT_POSSIBLE;
                appendName(3) = 1; watch(0, 0) = 1;
                restart(0) = NOT_POSSIBLE; restart(1) = NOT_POSSIBLE; restart(2) = NOT_POSSIBLE
                """);
        SCRIPT.run("promise 1: the buffer is empty", "clearPath() = 0; dataAt(0) = NOT_POSSIBLE");
        SCRIPT.run("promise 1: 3 servers", "reset(4) = 3; reset(5) = 4; reset(3) = 5");
    }

    private static void promise2Reset() {
        SCRIPT.run("promise 2: the range", """
                reset(2) = INVALID_ARGUMENT; reset(6) = INVALID_ARGUMENT; reset(-1) = INVALID_ARGUMENT;
                reset(0) = INVALID_ARGUMENT; reset(2147483647) = INVALID_ARGUMENT; reset(-2147483648) = INVALID_ARGUMENT;
                reset(3) = 3; reset(5) = 3; lastIdentifier(4) = 0; reset(4) = 5; lastIdentifier(4) = INVALID_ARGUMENT;
                lastIdentifier(3) = 0; reset(3) = 4; lastIdentifier(3) = INVALID_ARGUMENT
                """);
        SCRIPT.run("promise 2: nothing is left of the old service", """
                elect() = 2; openSession() = 0; openSession() = 1; appendName(1) = 1; watch(2, 1) = 1; watch(2, 0) = 2;
                create(5, 0) = 1001; accept(0) = 1001; heartbeat(0) = 1; eventCount(1) = 1; watch(0, 0) = 1;
                crash(1) = 2;
                reset(3) = 3; clearPath() = 0; leader() = NOT_FOUND; committedCount() = NOT_POSSIBLE;
                eventCount(0) = INVALID_ARGUMENT; lastIdentifier(2) = 0; appliedCount(2) = 0; appliedCount(0) = 0;
                acceptedEpoch(0) = 0; acceptedEpoch(1) = 0; nodeCount(2) = 0; nodeCount(0) = 0;
                restart(1) = NOT_POSSIBLE; openSession() = 0; eventCount(0) = 0; eventAt(0, 0) = NOT_FOUND;
                openSession() = 1; eventCount(1) = 0;
                appendName(1) = 1; ownerAt(2) = NOT_FOUND; watch(1, 0) = 1;
                elect() = 2; create(7, NONE) = 1001; accept(1) = 1001; dataAt(2) = 7; ownerAt(2) = NONE; versionAt(2) = 0;
                eventCount(0) = 0; eventCount(1) = 0; heartbeat(1) = 1; eventCount(0) = 1
                """);
        SCRIPT.run("promise 2: no server is active without a leader", """
                elect() = 2; reset(3) = 3; heartbeat(0) = NOT_POSSIBLE; accept(0) = NOT_POSSIBLE; heartbeat(2) = NOT_POSSIBLE
                """);
        SCRIPT.run("promise 2: a wrong number changes nothing", """
                elect() = 2; appendName(1) = 1; create(5, NONE) = 1001; reset(6) = INVALID_ARGUMENT;
                leader() = 2; clearPath() = 1; lastIdentifier(2) = 1001; reset(3) = 3
                """);
        SCRIPT.run("promise 2: servers that the smaller service lacks come back new", """
                reset(5) = 3; elect() = 4; appendName(0) = 1; create(1, NONE) = 1001; accept(3) = 1001; accept(0) = 1001;
                heartbeat(3) = 1; reset(3) = 5; elect() = 2; reset(5) = 3; lastIdentifier(4) = 0; acceptedEpoch(3) = 0;
                nodeCount(4) = 0; nodeCount(3) = 0; appliedCount(3) = 0; crash(4) = 4; crash(3) = 3; crash(2) = 2
                """);
        SCRIPT.run("promise 2: the smaller service does not count the servers that it lacks", """
                reset(5) = 3; reset(3) = 5; crash(0) = 2; elect() = 2; crash(1) = 1; leader() = NOT_FOUND
                """);
    }

    private static void promise3Crash() {
        SCRIPT.run("promise 3: answers", """
                crash(-1) = INVALID_ARGUMENT; crash(3) = INVALID_ARGUMENT; crash(2147483647) = INVALID_ARGUMENT;
                crash(1) = 2; crash(1) = NOT_POSSIBLE; crash(0) = 1; crash(2) = 0; crash(2) = NOT_POSSIBLE
                """);
        SCRIPT.run("promise 3: the leader goes down", """
                elect() = 2; crash(2) = 2; leader() = NOT_FOUND; accept(0) = NOT_POSSIBLE; heartbeat(0) = NOT_POSSIBLE;
                committedCount() = NOT_POSSIBLE
                """);
        SCRIPT.run("promise 3: too few followers of 3", """
                elect() = 2; crash(0) = 2; leader() = 2; heartbeat(1) = 0; crash(1) = 1; leader() = NOT_FOUND
                """);
        SCRIPT.run("promise 3: too few followers of 4, whose quorum is 3", """
                reset(4) = 3; elect() = 3; crash(0) = 3; leader() = 3; crash(1) = 2; leader() = NOT_FOUND;
                heartbeat(2) = NOT_POSSIBLE
                """);
        SCRIPT.run("promise 3: servers that are up but not active don't count", """
                elect() = 2; crash(0) = 2; restart(0) = 3; leader() = 2; crash(1) = 2; leader() = NOT_FOUND
                """);
        SCRIPT.run("promise 3: a server that is not active goes down without harm", """
                elect() = 2; crash(0) = 2; restart(0) = 3; crash(0) = 2; leader() = 2; crash(0) = NOT_POSSIBLE
                """);
        SCRIPT.run("promise 3: log, epoch and tree survive", """
                elect() = 2; appendName(4) = 1; create(9, NONE) = 1001; accept(0) = 1001; heartbeat(0) = 1;
                setData(8, 0) = 1002; accept(0) = 1002; crash(0) = 2;
                lastIdentifier(0) = 1002; appliedCount(0) = 1; acceptedEpoch(0) = 1; dataAt(0) = 9; committedCount() = 2;
                crash(2) = 1; dataAt(2) = 8; versionAt(2) = 1; appliedCount(2) = 2
                """);
        SCRIPT.run("promise 3: the watches of the server are gone, without an event", """
                elect() = 2; openSession() = 0; appendName(1) = 1; watch(0, 0) = 1; watch(1, 0) = 2; watch(0, 0) = 3;
                crash(0) = 2; eventCount(0) = 0; watch(1, 0) = 2; restart(0) = 3; synchronize(0) = 0;
                create(1, NONE) = 1001; accept(0) = 1001; heartbeat(0) = 1; eventCount(0) = 0;
                accept(1) = 1001; heartbeat(1) = 1; eventCount(0) = 2
                """);
        SCRIPT.run("promise 3: what is committed does not fall while the leader stays", """
                reset(5) = 3; elect() = 4; appendName(0) = 1; create(1, NONE) = 1001; accept(0) = 1001; accept(1) = 1001;
                committedCount() = 1; crash(0) = 4; crash(1) = 3; committedCount() = 1; accept(2) = 1001;
                committedCount() = 1; heartbeat(2) = 1; setData(2, 0) = 1002; accept(2) = 1002; committedCount() = 1;
                accept(3) = 1001; committedCount() = 1; accept(3) = 1002; committedCount() = 2; appliedCount(4) = 2
                """);
    }

    private static void promise4Restart() {
        SCRIPT.run("promise 4: answers", """
                restart(-1) = INVALID_ARGUMENT; restart(3) = INVALID_ARGUMENT; restart(0) = NOT_POSSIBLE;
                crash(0) = 2; crash(1) = 1; restart(0) = 2; restart(0) = NOT_POSSIBLE; restart(1) = 3
                """);
        SCRIPT.run("promise 4: the server is not active", """
                elect() = 2; crash(0) = 2; restart(0) = 3; heartbeat(0) = NOT_POSSIBLE; accept(0) = NOT_POSSIBLE;
                synchronize(0) = 0; heartbeat(0) = 0
                """);
        SCRIPT.run("promise 4: the former leader is not the leader", """
                elect() = 2; crash(2) = 2; restart(2) = 3; leader() = NOT_FOUND; elect() = 2; acceptedEpoch(2) = 2
                """);
    }

    private static void promise5Elect() {
        SCRIPT.run("promise 5: answers", """
                elect() = 2; elect() = NOT_POSSIBLE; leader() = 2; acceptedEpoch(0) = 1; crash(2) = 2; crash(1) = 1;
                elect() = NOT_POSSIBLE; restart(1) = 2; elect() = 1; acceptedEpoch(1) = 2; acceptedEpoch(0) = 2;
                acceptedEpoch(2) = 1; heartbeat(0) = 0
                """);
        SCRIPT.run("promise 5: the quorum of 4 is 3", """
                reset(4) = 3; crash(3) = 3; elect() = 2; crash(0) = 2; elect() = NOT_POSSIBLE; restart(3) = 3; elect() = 2
                """);
        SCRIPT.run("promise 5: the quorum of 5 is 3", """
                reset(5) = 3; crash(4) = 4; crash(3) = 3; elect() = 2; crash(2) = 2; elect() = NOT_POSSIBLE
                """);
        SCRIPT.run("promise 5: the greatest last identifier comes before the greatest number", """
                elect() = 2; appendName(0) = 1; create(1, NONE) = 1001; create(1, NONE) = ALREADY_EXISTS;
                setData(2, 0) = 1002; accept(0) = 1001; accept(0) = 1002; accept(1) = 1001; crash(2) = 2; elect() = 0;
                lastIdentifier(1) = 1002; appliedCount(1) = 2; committedCount() = 2
                """);
        SCRIPT.run("promise 5: the greatest accepted epoch comes before the greatest last identifier", """
                elect() = 2; appendName(0) = 1; create(1, NONE) = 1001; crash(2) = 2; elect() = 1; crash(0) = 1;
                restart(2) = 2; elect() = 1; lastIdentifier(2) = 0; acceptedEpoch(2) = 3
                """);
        SCRIPT.run("promise 5: the counter starts anew, the epoch is one more than any that is up", """
                elect() = 2; appendName(0) = 1; create(1, NONE) = 1001; accept(1) = 1001; crash(2) = 2; elect() = 1;
                setData(5, 0) = 2001; crash(1) = 1; restart(2) = 2; elect() = 0; setData(6, 0) = 3001;
                restart(1) = 3; synchronize(1) = 101; lastIdentifier(1) = 3001
                """);
        SCRIPT.run("promise 5: proposals are checked against the new leader's log", """
                elect() = 2; openSession() = 0; appendName(0) = 1; create(1, NONE) = 1001; closeSession(0) = 1002;
                closeSession(0) = NOT_POSSIBLE; crash(2) = 2; elect() = 1; setData(2, 0) = NOT_FOUND;
                create(7, 0) = 2001; closeSession(0) = 2002
                """);
    }

    private static void promise5ElectionApplies() {
        SCRIPT.run("promise 5: all active servers apply, in the order of their numbers", """
                elect() = 2; openSession() = 0; appendName(0) = 1; create(1, NONE) = 1001; setData(2, 0) = 1002;
                accept(0) = 1001; accept(0) = 1002; watch(1, 0) = 1; watch(0, 0) = 2; committedCount() = 2;
                appliedCount(0) = 0; crash(2) = 2; elect() = 0; committedCount() = 2; appliedCount(0) = 2; appliedCount(1) = 2;
                eventCount(0) = 2; eventAt(0, 0) = 10010; eventAt(0, 1) = 10010; dataAt(1) = 2; versionAt(0) = 1
                """);
        SCRIPT.run("promise 5: server 0 applies everything before server 1 does", "elect() = 2; openSession() = 0;",
                Script.path(0, 0), "create(1, NONE) = 1001; watch(1, 0) = 1;",
                Script.path(1, 1), "create(1, NONE) = 1002; watch(0, 0) = 2;",
                "accept(1) = 1001; accept(1) = 1002; crash(2) = 2; elect() = 1;",
                "eventCount(0) = 2; eventAt(0, 0) = 10020; eventAt(0, 1) = 10010");
        SCRIPT.run("promise 5: the leader's own log becomes committed", """
                elect() = 2; appendName(0) = 1; create(4, NONE) = 1001; crash(0) = 2; crash(1) = 1; leader() = NOT_FOUND;
                appliedCount(2) = 0; restart(0) = 2; elect() = 2; committedCount() = 1; dataAt(2) = 4; dataAt(0) = 4;
                dataAt(1) = NOT_FOUND; lastIdentifier(0) = 1001; setData(3, 0) = 2001
                """);
    }

    private static void promise6Synchronize() {
        SCRIPT.run("promise 6: answers", """
                synchronize(-1) = INVALID_ARGUMENT; synchronize(3) = INVALID_ARGUMENT; synchronize(0) = NOT_POSSIBLE;
                elect() = 2; synchronize(0) = NOT_POSSIBLE; synchronize(2) = NOT_POSSIBLE; crash(0) = 2;
                synchronize(0) = NOT_POSSIBLE; restart(0) = 3; synchronize(0) = 0; synchronize(0) = NOT_POSSIBLE
                """);
        SCRIPT.run("promise 6: removed and appended transactions", """
                elect() = 2; appendName(0) = 1; create(1, NONE) = 1001; accept(0) = 1001; setData(2, 0) = 1002;
                setData(3, 1) = 1003; crash(2) = 2; elect() = 0; setData(4, 0) = 2001; setData(5, 1) = 2002; setData(6, 2) = 2003;
                restart(2) = 3; commonLog(0, 2) = 1; synchronize(2) = 203; commonLog(0, 2) = 4; acceptedEpoch(2) = 2;
                committedCount() = 4; appliedCount(0) = 4; appliedCount(2) = 4; dataAt(2) = 6; dataAt(0) = 6; appliedCount(1) = 1;
                heartbeat(2) = 0
                """);
        SCRIPT.run("promise 6: the quorum found anew has the server, the leader applies first", """
                elect() = 2; openSession() = 0; crash(0) = 2; restart(0) = 3; appendName(3) = 1; create(1, NONE) = 1001;
                watch(0, 0) = 1; watch(2, 0) = 2; committedCount() = 0; setData(2, 0) = 1002; synchronize(0) = 2;
                committedCount() = 2; appliedCount(2) = 2; appliedCount(0) = 2; eventCount(0) = 2
                """);
        SCRIPT.run("promise 6: the order of the two is seen in events of one session", """
                elect() = 2; openSession() = 0; crash(0) = 2; restart(0) = 3; appendName(3) = 1; create(1, NONE) = 1001;
                watch(0, 0) = 1; clearPath() = 1; appendName(4) = 1; create(1, NONE) = 1002; watch(2, 0) = 2;
                synchronize(0) = 2; eventAt(0, 0) = 10020; eventAt(0, 1) = 10010
                """);
        SCRIPT.run("promise 6: the server applies only what is committed", """
                reset(5) = 3; elect() = 4; crash(0) = 4; restart(0) = 5; appendName(1) = 1; create(1, NONE) = 1001;
                accept(1) = 1001; accept(2) = 1001; setData(2, 0) = 1002; synchronize(0) = 2; committedCount() = 1;
                appliedCount(0) = 1; appliedCount(4) = 1; dataAt(0) = 1; lastIdentifier(0) = 1002; accept(1) = 1002;
                committedCount() = 2; appliedCount(0) = 1; heartbeat(0) = 1
                """);
        SCRIPT.run("promise 6: the server counts for the quorum from then on", """
                elect() = 2; crash(0) = 2; restart(0) = 3; synchronize(0) = 0; crash(1) = 2; leader() = 2
                """);
    }

    private static void promise7Accept() {
        SCRIPT.run("promise 7: answers", """
                accept(-1) = INVALID_ARGUMENT; accept(3) = INVALID_ARGUMENT; accept(0) = NOT_POSSIBLE; elect() = 2;
                accept(0) = NOT_POSSIBLE; appendName(0) = 1; create(1, NONE) = 1001; setData(2, ANY_VERSION) = 1002;
                accept(2) = NOT_POSSIBLE; accept(0) = 1001; lastIdentifier(0) = 1001; accept(0) = 1002;
                accept(0) = NOT_POSSIBLE; accept(3) = INVALID_ARGUMENT; crash(1) = 2; accept(1) = NOT_POSSIBLE;
                restart(1) = 3; accept(1) = NOT_POSSIBLE
                """);
        SCRIPT.run("promise 7: the leader applies at once, the follower does not", """
                elect() = 2; appendName(0) = 1; create(1, NONE) = 1001; appliedCount(2) = 0; accept(1) = 1001;
                appliedCount(2) = 1; appliedCount(1) = 0; dataAt(2) = 1; dataAt(1) = NOT_FOUND; accept(0) = 1001;
                committedCount() = 1; appliedCount(0) = 0
                """);
        SCRIPT.run("promise 7: commits of 4 and 5 servers", """
                reset(4) = 3; elect() = 3; appendName(0) = 1; create(1, NONE) = 1001; accept(0) = 1001; committedCount() = 0;
                accept(2) = 1001; committedCount() = 1; reset(5) = 4; elect() = 4; appendName(0) = 1; create(1, NONE) = 1001;
                setData(2, 0) = 1002; accept(0) = 1001; accept(0) = 1002; committedCount() = 0; accept(2) = 1001;
                committedCount() = 1; accept(3) = 1001; committedCount() = 1; accept(3) = 1002; committedCount() = 2
                """);
    }

    private static void promise8Heartbeat() {
        SCRIPT.run("promise 8: answers", """
                heartbeat(-1) = INVALID_ARGUMENT; heartbeat(3) = INVALID_ARGUMENT; heartbeat(0) = NOT_POSSIBLE; elect() = 2;
                heartbeat(2) = NOT_POSSIBLE; heartbeat(0) = 0; crash(0) = 2; heartbeat(0) = NOT_POSSIBLE; restart(0) = 3;
                heartbeat(0) = NOT_POSSIBLE
                """);
        SCRIPT.run("promise 8: committed transactions that the log contains", """
                reset(5) = 3; elect() = 4; appendName(0) = 1; create(1, NONE) = 1001; setData(2, 0) = 1002; setData(3, 1) = 1003;
                accept(0) = 1001; accept(0) = 1002; accept(0) = 1003; heartbeat(0) = 0; accept(1) = 1001; accept(1) = 1002;
                committedCount() = 2; heartbeat(0) = 2; heartbeat(0) = 0; dataAt(0) = 2; heartbeat(1) = 2; accept(2) = 1001;
                heartbeat(2) = 1; dataAt(2) = 1; versionAt(2) = 0; heartbeat(3) = 0; appliedCount(2) = 1
                """);
    }

    private static void promises9To13Readers() {
        SCRIPT.run("promise 9", "leader() = NOT_FOUND; elect() = 2; leader() = 2; crash(2) = 2; leader() = NOT_FOUND;",
                "elect() = 1; leader() = 1");
        SCRIPT.run("promise 10", """
                lastIdentifier(-1) = INVALID_ARGUMENT; lastIdentifier(3) = INVALID_ARGUMENT; lastIdentifier(0) = 0; elect() = 2;
                lastIdentifier(2) = 0; appendName(0) = 1; create(1, NONE) = 1001; lastIdentifier(2) = 1001; lastIdentifier(0) = 0;
                delete(0) = 1002; lastIdentifier(2) = 1002; accept(0) = 1001; lastIdentifier(0) = 1001
                """);
        SCRIPT.run("promise 11", """
                appliedCount(-1) = INVALID_ARGUMENT; appliedCount(3) = INVALID_ARGUMENT; appliedCount(0) = 0; elect() = 2;
                appendName(0) = 1; create(1, NONE) = 1001; accept(0) = 1001; appliedCount(2) = 1; appliedCount(0) = 0;
                heartbeat(0) = 1; appliedCount(0) = 1; delete(0) = 1002; appliedCount(2) = 1; accept(1) = 1001; accept(1) = 1002;
                appliedCount(2) = 2
                """);
        SCRIPT.run("promise 12", """
                committedCount() = NOT_POSSIBLE; elect() = 2; committedCount() = 0; appendName(0) = 1; create(1, NONE) = 1001;
                committedCount() = 0; accept(0) = 1001; committedCount() = 1; crash(2) = 2; committedCount() = NOT_POSSIBLE;
                elect() = 0; committedCount() = 1
                """);
        SCRIPT.run("promise 13", """
                acceptedEpoch(-1) = INVALID_ARGUMENT; acceptedEpoch(3) = INVALID_ARGUMENT; acceptedEpoch(0) = 0; crash(0) = 2;
                elect() = 2; acceptedEpoch(0) = 0; acceptedEpoch(1) = 1; acceptedEpoch(2) = 1; restart(0) = 3; acceptedEpoch(0) = 0;
                synchronize(0) = 0; acceptedEpoch(0) = 1; crash(2) = 2; acceptedEpoch(2) = 1; elect() = 1; acceptedEpoch(0) = 2
                """);
    }

    private static void promise29CommonLog() {
        SCRIPT.run("promise 29", """
                commonLog(-1, 0) = INVALID_ARGUMENT; commonLog(0, -1) = INVALID_ARGUMENT; commonLog(3, 0) = INVALID_ARGUMENT;
                commonLog(0, 3) = INVALID_ARGUMENT; commonLog(0, 1) = 0; commonLog(0, 0) = 0; elect() = 2; appendName(0) = 1;
                create(1, NONE) = 1001; commonLog(2, 2) = 1; commonLog(0, 2) = 0; accept(0) = 1001; commonLog(0, 2) = 1;
                commonLog(2, 0) = 1; delete(0) = 1002; commonLog(0, 2) = 1; crash(2) = 2; elect() = 0; delete(0) = 2001;
                commonLog(0, 2) = 1; commonLog(2, 0) = 1; commonLog(1, 2) = 1; commonLog(0, 0) = 2; lastIdentifier(2) = 1002
                """);
        SCRIPT.run("promise 29: logs that differ from the first transaction on", """
                elect() = 2; appendName(0) = 1; create(1, NONE) = 1001; setData(2, 0) = 1002; crash(2) = 2; elect() = 1;
                create(1, NONE) = 2001; setData(2, 0) = 2002; commonLog(1, 2) = 0; commonLog(2, 1) = 0; restart(2) = 3;
                synchronize(2) = 202; commonLog(1, 2) = 2
                """);
    }
}
