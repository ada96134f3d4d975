/** Promises 19 to 23: sessions, watches and events. */
public final class SessionsTest {
    private static final Script SCRIPT = new Script();

    public static void main(String[] args) {
        promise19OpenSession();
        promise20CloseSession();
        promise20EveryNodeGoes();
        promise21Watch();
        promise21WatchesFire();
        promise22EventCount();
        promise23EventAt();
        SCRIPT.finish();
    }

    private static void promise19OpenSession() {
        SCRIPT.run("promise 19", """
                openSession() = 0; openSession() = 1; elect() = 2; closeSession(0) = 1001; openSession() = 2; openSession() = 3;
                openSession() = 4; eventCount(5) = INVALID_ARGUMENT; openSession() = 5; eventCount(5) = 0;
                openSession() = CAPACITY_EXCEEDED; eventCount(6) = INVALID_ARGUMENT; crash(2) = 2;
                openSession() = CAPACITY_EXCEEDED; eventCount(5) = 0
                """);
    }

    private static void promise20CloseSession() {
        SCRIPT.run("promise 20: answers", """
                closeSession(0) = INVALID_ARGUMENT; openSession() = 0; closeSession(-1) = INVALID_ARGUMENT;
                closeSession(1) = INVALID_ARGUMENT; closeSession(NONE) = INVALID_ARGUMENT;
                closeSession(2147483647) = INVALID_ARGUMENT; closeSession(0) = NOT_POSSIBLE; elect() = 2; closeSession(0) = 1001;
                closeSession(0) = NOT_POSSIBLE; openSession() = 1; closeSession(1) = 1002; crash(2) = 2;
                closeSession(0) = NOT_POSSIBLE
                """);
        SCRIPT.run("promise 20: only the nodes of the session go", "elect() = 2; openSession() = 0; openSession() = 1;",
                Script.path(0, 0), "create(1, NONE) = 1001;", Script.path(1, 1), "create(1, 0) = 1002;",
                Script.path(1, 2), "create(1, 1) = 1003;", Script.path(1, 0, 3), "create(1, 0) = 1004;",
                "closeSession(0) = 1005; accept(0) = 1001; accept(0) = 1002; accept(0) = 1003; accept(0) = 1004;",
                "nodeCount(2) = 4; accept(0) = 1005; nodeCount(2) = 2; dataAt(2) = NOT_FOUND;",
                Script.path(2, 2), "ownerAt(2) = 1;", Script.path(1, 0), "childCount(2) = 0; delete(0) = 1006;",
                Script.path(1, 1), "create(5, 1) = 1007; closeSession(1) = 1008");
        SCRIPT.run("promise 20: a session is open again if the new leader does not know its end", """
                openSession() = 0; elect() = 2; appendName(0) = 1; closeSession(0) = 1001; create(1, 0) = NOT_POSSIBLE;
                crash(2) = 2; create(1, 0) = NOT_POSSIBLE; elect() = 1; create(1, 0) = 2001; closeSession(0) = 2002;
                closeSession(0) = NOT_POSSIBLE
                """);
        SCRIPT.run("promise 20: a session stays closed if the new leader knows its end", """
                openSession() = 0; elect() = 2; appendName(0) = 1; closeSession(0) = 1001; accept(1) = 1001; crash(2) = 2;
                elect() = 1; closeSession(0) = NOT_POSSIBLE; create(1, 0) = NOT_POSSIBLE; create(1, NONE) = 2001
                """);
        StringBuilder sets = new StringBuilder();
        for (int i = 0; i < 39; i++) {
            sets.append("setData(1, ANY_VERSION) = ").append(1002 + i).append(';');
        }
        SCRIPT.run("promise 20: 40 transactions", "elect() = 2; openSession() = 0; appendName(0) = 1; create(1, NONE) = 1001;",
                sets.toString(), "closeSession(0) = CAPACITY_EXCEEDED; closeSession(1) = INVALID_ARGUMENT;",
                "closeSession(0) = CAPACITY_EXCEEDED; accept(0) = 1001");
    }

    /** The order in which they go is not seen in any answer: their events are all alike. */
    private static void promise20EveryNodeGoes() {
        SCRIPT.run("promise 20: nodes of one session at several depths", "elect() = 2; openSession() = 0; openSession() = 1;",
                Script.path(0, 0), "create(1, NONE) = 1001;", Script.path(1, 0, 5), "create(1, NONE) = 1002;",
                Script.path(2, 1), "create(1, 0) = 1003; watch(2, 1) = 1;",
                Script.path(1, 0, 5, 2), "create(1, 0) = 1004; watch(1, 1) = 2;",
                Script.path(3, 0, 1), "create(1, 0) = 1005; closeSession(0) = 1006;",
                "accept(0) = 1001; accept(0) = 1002; accept(0) = 1003; accept(0) = 1004; accept(0) = 1005;",
                "eventCount(1) = 1; nodeCount(2) = 5; watch(2, 1) = 2; watch(2, 0) = 3;",
                Script.path(2, 0, 5, 2), "watch(2, 1) = 4;", "accept(0) = 1006; nodeCount(2) = 2; eventCount(1) = 3;",
                "eventAt(1, 0) = 10030; eventAt(1, 1) = 10062; eventAt(1, 2) = 10062; eventAt(0, 0) = 10062; watch(2, 0) = 2");
    }

    private static void promise21Watch() {
        SCRIPT.run("promise 21: answers", """
                watch(0, 0) = INVALID_ARGUMENT; openSession() = 0; watch(0, 0) = NOT_POSSIBLE; watch(3, 0) = INVALID_ARGUMENT;
                watch(-1, 0) = INVALID_ARGUMENT; watch(0, 1) = INVALID_ARGUMENT; watch(0, -1) = INVALID_ARGUMENT;
                watch(0, NONE) = INVALID_ARGUMENT; appendName(0) = 1; crash(0) = 2; watch(0, 0) = NOT_POSSIBLE; watch(1, 0) = 1;
                watch(1, 0) = 2; watch(2, 0) = 3; restart(0) = 3; watch(0, 0) = 4; clearPath() = 1; watch(0, 0) = NOT_POSSIBLE
                """);
        SCRIPT.run("promise 21: 10 watches", "openSession() = 0; appendName(0) = 1;", tenWatches(),
                "watch(1, 0) = CAPACITY_EXCEEDED; watch(3, 0) = INVALID_ARGUMENT; clearPath() = 1; watch(0, 0) = NOT_POSSIBLE;",
                "appendName(1) = 1; watch(2, 0) = CAPACITY_EXCEEDED; crash(1) = 2; watch(1, 0) = NOT_POSSIBLE; watch(2, 0) = 1");
        SCRIPT.run("promise 21: a closed session may watch", """
                elect() = 2; openSession() = 0; closeSession(0) = 1001; appendName(0) = 1; watch(2, 0) = 1; create(1, NONE) = 1002;
                accept(0) = 1001; eventCount(0) = 0; accept(0) = 1002; eventCount(0) = 1; eventAt(0, 0) = 10020
                """);
    }

    private static String tenWatches() {
        StringBuilder text = new StringBuilder();
        for (int i = 1; i <= 10; i++) {
            text.append("watch(1, 0) = ").append(i).append(';');
        }
        return text.toString();
    }

    private static void promise21WatchesFire() {
        SCRIPT.run("promise 21: a watch fires once, for each kind", """
                elect() = 2; openSession() = 0; appendName(0) = 1; watch(2, 0) = 1; create(1, NONE) = 1001; accept(0) = 1001;
                eventCount(0) = 1; eventAt(0, 0) = 10010; setData(2, 0) = 1002; accept(0) = 1002; eventCount(0) = 1;
                watch(2, 0) = 1; setData(3, 1) = 1003; accept(0) = 1003; eventAt(0, 1) = 10031; watch(2, 0) = 1;
                delete(2) = 1004; accept(0) = 1004; eventAt(0, 2) = 10042; eventCount(0) = 3
                """);
        SCRIPT.run("promise 21: other paths and other servers are not meant", "elect() = 2; openSession() = 0;",
                Script.path(0, 0), "watch(1, 0) = 1;", Script.path(1, 0, 0), "watch(2, 0) = 2;",
                Script.path(2, 1), "watch(2, 0) = 3;", Script.path(1, 0), "create(1, NONE) = 1001; accept(0) = 1001;",
                "eventCount(0) = 0; watch(2, 0) = 4; setData(1, 0) = 1002; accept(0) = 1002; eventCount(0) = 1; heartbeat(0) = 2;",
                "eventCount(0) = 1; accept(1) = 1001; eventCount(0) = 1; heartbeat(1) = 1; eventCount(0) = 2; eventAt(0, 1) = 10010;",
                Script.path(1, 0, 0), "create(1, NONE) = 1003; accept(1) = 1002; accept(1) = 1003; eventCount(0) = 3;",
                "eventAt(0, 2) = 10030; watch(0, 0) = 2");
        SCRIPT.run("promise 21: proposals alone fire nothing", """
                elect() = 2; openSession() = 0; appendName(0) = 1; watch(2, 0) = 1; watch(0, 0) = 2; create(1, NONE) = 1001;
                eventCount(0) = 0; watch(1, 0) = 3
                """);
        SCRIPT.run("promise 21: several watches of one path all fire", """
                elect() = 2; openSession() = 0; openSession() = 1; appendName(0) = 1; watch(2, 0) = 1; watch(2, 1) = 2;
                watch(2, 0) = 3; watch(1, 1) = 4; create(1, NONE) = 1001; setData(1, 0) = 1002; accept(0) = 1001; eventCount(0) = 2;
                eventCount(1) = 1; watch(2, 1) = 2; accept(0) = 1002; eventCount(1) = 2; eventAt(1, 1) = 10021; watch(0, 0) = 2
                """);
        SCRIPT.run("promise 21: a watch waits while its server is not active", """
                elect() = 2; openSession() = 0; crash(0) = 2; restart(0) = 3; appendName(0) = 1; watch(0, 0) = 1;
                create(1, NONE) = 1001; accept(1) = 1001; eventCount(0) = 0; synchronize(0) = 1; eventCount(0) = 1;
                eventAt(0, 0) = 10010
                """);
    }

    private static void promise22EventCount() {
        SCRIPT.run("promise 22", """
                eventCount(0) = INVALID_ARGUMENT; openSession() = 0; eventCount(0) = 0; eventCount(-1) = INVALID_ARGUMENT;
                eventCount(1) = INVALID_ARGUMENT; openSession() = 1; elect() = 2; appendName(0) = 1; watch(2, 1) = 1;
                create(1, NONE) = 1001; eventCount(1) = 0; accept(1) = 1001; eventCount(1) = 1; eventCount(0) = 0
                """);
    }

    /** Watches and sets the node /0 so many times; the events of session 0 follow. */
    private static String sets(int first, int count) {
        StringBuilder text = new StringBuilder();
        for (int i = first; i < first + count; i++) {
            text.append("watch(2, 0) = 1; setData(1, ANY_VERSION) = ").append(1002 + i).append(';');
            text.append("accept(0) = ").append(1002 + i).append("; eventCount(0) = ").append(i + 1).append(';');
        }
        return text.toString();
    }

    private static void promise23EventAt() {
        SCRIPT.run("promise 23: answers", """
                eventAt(0, 0) = INVALID_ARGUMENT; openSession() = 0; eventAt(0, 0) = NOT_FOUND; eventAt(0, -1) = INVALID_ARGUMENT;
                eventAt(0, -2147483648) = INVALID_ARGUMENT; eventAt(0, 2147483647) = NOT_FOUND; eventAt(-1, 0) = INVALID_ARGUMENT;
                eventAt(1, 0) = INVALID_ARGUMENT
                """);
        SCRIPT.run("promise 23: the latest 8", "elect() = 2; openSession() = 0; appendName(0) = 1; create(1, NONE) = 1001;",
                "accept(0) = 1001;", sets(0, 8), "eventAt(0, 0) = 10021; eventAt(0, 7) = 10091; eventAt(0, 8) = NOT_FOUND;",
                sets(8, 1), "eventAt(0, 0) = NOT_FOUND; eventAt(0, 1) = 10031; eventAt(0, 8) = 10101; eventAt(0, 9) = NOT_FOUND;",
                sets(9, 11), "eventAt(0, 11) = NOT_FOUND; eventAt(0, 12) = 10141; eventAt(0, 13) = 10151; eventAt(0, 18) = 10201;",
                "eventAt(0, 19) = 10211; eventAt(0, 20) = NOT_FOUND; eventAt(0, 0) = NOT_FOUND; eventAt(0, -1) = INVALID_ARGUMENT");
        SCRIPT.run("promise 23: sessions have events of their own", """
                elect() = 2; openSession() = 0; openSession() = 1; appendName(0) = 1; watch(2, 0) = 1; create(1, NONE) = 1001;
                accept(0) = 1001; watch(2, 1) = 1; delete(0) = 1002; accept(0) = 1002; eventAt(0, 0) = 10010; eventAt(1, 0) = 10022;
                eventAt(0, 1) = NOT_FOUND
                """);
        SCRIPT.run("promise 23: events have the identifier of their epoch", """
                elect() = 2; openSession() = 0; crash(2) = 2; elect() = 1; appendName(0) = 1; watch(1, 0) = 1; create(1, NONE) = 2001;
                accept(0) = 2001; eventAt(0, 0) = 20010
                """);
    }
}
