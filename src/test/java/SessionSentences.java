/** The sentences of promises 19 to 23: sessions, watches and events. */
final class SessionSentences {
    private static final String SESSION = "session: number of an existing session";
    private static final String NO_SUCH_SESSION = "INVALID_ARGUMENT if there is no such session";
    /** The node /0, committed by servers 2 and 0, and in the path buffer. */
    private static final String NODE = "elect() = 2; openSession() = 0; /0; create(1, NONE) = 1001; accept(0) = 1001;";

    private final Sentences s;

    private SessionSentences(Sentences sentences) {
        s = sentences;
    }

    static void all(Sentences sentences) {
        SessionSentences group = new SessionSentences(sentences);
        group.openSession();
        group.closeSession();
        group.watch();
        group.watchRefused();
        group.eventCount();
        group.eventAt();
    }

    /** So many events of session 0, each by a change of the node that NODE has made. */
    private static String events(int first, int last) {
        return Sentences.each(first, last,
                i -> "watch(2, 0) = 1; setData(1, ANY_VERSION) = " + (1001 + i) + "; accept(0) = " + (1001 + i));
    }

    private void openSession() {
        s.section("Promise 19");
        s.hold("Opens a session", "closeSession(0) = INVALID_ARGUMENT; openSession() = 0; closeSession(0) = NOT_POSSIBLE;",
                "eventCount(0) = 0; elect() = 2; /0; create(1, 0) = 1001; closeSession(0) = 1002");
        s.hold("Returns the number of the session", Sentences.each(0, 5, i -> "openSession() = " + i),
                "reset(3) = 3; openSession() = 0");
        String full = "CAPACITY_EXCEEDED if there are already 6 (closed ones included)";
        s.hold(full, Sentences.each(0, 4, i -> "openSession() = " + i), "openSession() = 5; openSession() = CAPACITY_EXCEEDED;",
                "openSession() = CAPACITY_EXCEEDED; eventCount(5) = 0; eventCount(6) = INVALID_ARGUMENT");
        s.hold(full, "elect() = 2;", Sentences.each(0, 5,
                i -> "openSession() = " + i + "; closeSession(" + i + ") = " + (1001 + i)),
                "openSession() = CAPACITY_EXCEEDED;", Sentences.accepts(0, 1, 1, 6),
                "openSession() = CAPACITY_EXCEEDED; crash(2) = 2; openSession() = CAPACITY_EXCEEDED");
    }

    private void closeSession() {
        s.section("Promise 20");
        s.hold("Proposes a CLOSE transaction of a session", """
                elect() = 2; openSession() = 0; openSession() = 1; /0; create(1, 0) = 1001; /1; create(1, 1) = 1002;
                accept(0) = 1001; accept(0) = 1002; closeSession(0) = 1003; nodeCount(2) = 2; lastIdentifier(2) = 1003;
                accept(0) = 1003; nodeCount(2) = 1; dataAt(2) = 1; heartbeat(0) = 3; nodeCount(0) = 1;
                closeSession(1) = 1004
                """);
        s.holdForSessions(SESSION, "elect() = 2; outside closeSession(@); closeSession($l) = 1001");
        s.hold(SESSION, "elect() = 2;", Sentences.each(0, 5, i -> "openSession() = " + i),
                Sentences.each(0, 5, i -> "closeSession(" + i + ") = " + (1001 + i)));
        s.hold("Returns the identifier of the transaction", "elect() = 2; openSession() = 0; openSession() = 1;",
                "closeSession(1) = 1001;",
                "crash(2) = 2; elect() = 1; closeSession(0) = 2001; closeSession(1) = 2002; lastIdentifier(1) = 2002");
        s.hold(NO_SUCH_SESSION, "elect() = 2; closeSession(0) = INVALID_ARGUMENT; closeSession(-1) = INVALID_ARGUMENT;",
                "openSession() = 0; closeSession(1) = INVALID_ARGUMENT; closeSession(0) = 1001");
        s.holdForSessions(NO_SUCH_SESSION, "elect() = 2; outside closeSession(@); lastIdentifier(2) = 0");
        String refused = "NOT_POSSIBLE if there is no leader or the session is closed";
        s.hold(refused, """
                openSession() = 0; openSession() = 1; closeSession(0) = NOT_POSSIBLE; elect() = 2; closeSession(0) = 1001;
                closeSession(0) = NOT_POSSIBLE; accept(0) = 1001; closeSession(0) = NOT_POSSIBLE; crash(2) = 2;
                closeSession(1) = NOT_POSSIBLE; closeSession(0) = NOT_POSSIBLE; elect() = 0; closeSession(0) = NOT_POSSIBLE;
                closeSession(1) = 2001
                """);
        String full = "CAPACITY_EXCEEDED if the leader's log has 40 transactions";
        s.hold(full, "elect() = 2; openSession() = 0; openSession() = 1;", Sentences.LOG_OF_39, "closeSession(1) = 1040;",
                "closeSession(0) = CAPACITY_EXCEEDED; closeSession(1) = NOT_POSSIBLE; lastIdentifier(2) = 1040");
        s.hold(full, "elect() = 2; openSession() = 0;", Sentences.FULL_LOG, Sentences.accepts(0, 1, 1, 40),
                "closeSession(0) = CAPACITY_EXCEEDED; closeSession(0) = CAPACITY_EXCEEDED; crash(2) = 2; elect() = 0;",
                "closeSession(0) = CAPACITY_EXCEEDED");
    }

    private void watch() {
        s.section("Promise 21");
        String sentence = "Sets a watch for the path in the buffer, whether a node with this path exists or not";
        s.hold(sentence, NODE, """
                watch(2, 0) = 1; /5/5/5/5; watch(2, 0) = 2; /0/0; watch(2, 0) = 3; create(1, NONE) = 1002; /0;
                setData(1, 0) = 1003; eventCount(0) = 0; accept(0) = 1002; eventAt(0, 0) = 10020; eventCount(0) = 1;
                accept(0) = 1003; eventAt(0, 1) = 10031; watch(2, 0) = 2
                """);
        s.hold(sentence, NODE, """
                watch(2, 0) = 1; delete(0) = 1002; accept(0) = 1002; eventAt(0, 0) = 10022; watch(2, 0) = 1;
                create(1, NONE) = 1003; accept(0) = 1003; eventAt(0, 1) = 10030; watch(0, 0) = 1; heartbeat(0) = 3;
                eventCount(0) = 3; eventAt(0, 2) = 10010
                """);
        s.holdForServers("server: number of a server", "openSession() = 0; /0; outside watch(@, 0); watch(0, 0) = 1;",
                "watch($l, 0) = 2");
        s.holdForSessions(SESSION, "/0; outside watch(0, @); watch(0, 0) = 1; watch(2, $l) = 2");
        String answer = "Returns the number of watches";
        s.hold(answer, "openSession() = 0; openSession() = 1; /0; watch(0, 0) = 1; watch(1, 1) = 2; watch(0, 0) = 3; /1/1/1/1;",
                "watch(2, 1) = 4; crash(0) = 2; watch(2, 1) = 3; crash(2) = 1; watch(1, 0) = 2");
        s.hold(answer, NODE, Sentences.each(1, 10, i -> "watch(2, 0) = " + i),
                "setData(1, 0) = 1002; accept(0) = 1002; watch(2, 0) = 1");
    }

    private void watchRefused() {
        String invalid = "INVALID_ARGUMENT if there is no such server or session";
        s.hold(invalid, "/0; watch(0, 0) = INVALID_ARGUMENT; watch(0, -1) = INVALID_ARGUMENT; openSession() = 0;",
                "watch(3, 0) = INVALID_ARGUMENT; watch(-1, 0) = INVALID_ARGUMENT; watch(0, 1) = INVALID_ARGUMENT;",
                "watch(0, NONE) = INVALID_ARGUMENT; watch(3, 1) = INVALID_ARGUMENT; watch(2, 0) = 1");
        s.holdForServers(invalid, "openSession() = 0; /0; outside watch(@, 0); outside watch(@, 1); outside watch(0, @);",
                "watch($l, 0) = 1");
        s.holdForSessions(invalid, "/0; outside watch(0, @); outside watch(3, @); watch(0, $l) = 1");
        String refused = "NOT_POSSIBLE if the server is down or the path is empty";
        s.hold(refused, """
                openSession() = 0; watch(0, 0) = NOT_POSSIBLE; appendName(0) = 1; watch(0, 0) = 1; crash(0) = 2;
                watch(0, 0) = NOT_POSSIBLE; watch(1, 0) = 1; clearPath() = 1; watch(1, 0) = NOT_POSSIBLE;
                watch(0, 0) = NOT_POSSIBLE; appendName(5) = 1; restart(0) = 3; watch(0, 0) = 2
                """);
        String full = "CAPACITY_EXCEEDED if there are 10 watches";
        s.hold(full, "openSession() = 0; openSession() = 1; /0;", Sentences.each(1, 9,
                i -> "watch(" + i % 3 + ", " + i % 2 + ") = " + i),
                "watch(0, 0) = 10; watch(0, 0) = CAPACITY_EXCEEDED; watch(1, 1) = CAPACITY_EXCEEDED; /1;",
                "watch(2, 1) = CAPACITY_EXCEEDED;",
                "crash(1) = 2; watch(2, 1) = 8; watch(2, 1) = 9; watch(2, 1) = 10; watch(2, 1) = CAPACITY_EXCEEDED");
        s.hold(full, NODE, Sentences.each(1, 9, i -> "watch(1, 0) = " + i),
                "watch(2, 0) = 10; watch(2, 0) = CAPACITY_EXCEEDED;",
                "setData(1, 0) = 1002; accept(0) = 1002; watch(2, 0) = 10; watch(2, 0) = CAPACITY_EXCEEDED");
    }

    private void eventCount() {
        s.section("Promise 22");
        s.hold("Returns the number of events of a session", NODE, "openSession() = 1; eventCount(0) = 0; watch(2, 1) = 1;",
                "setData(1, 0) = 1002; eventCount(1) = 0; accept(0) = 1002; eventCount(1) = 1; eventCount(0) = 0");
        s.holdForSessions(SESSION, "outside eventCount(@); eventCount(0) = 0; eventCount($l) = 0");
        // The number grows on, though not all of the events can be read.
        s.hold("Returns the number of events", NODE, "eventCount(0) = 0;", events(1, 8), "eventCount(0) = 8;", events(9, 9),
                "eventCount(0) = 9;",
                events(10, 17), "eventCount(0) = 17;", Sentences.each(1, 10, i -> "watch(2, 0) = " + i),
                "setData(1, ANY_VERSION) = 1019; accept(0) = 1019; eventCount(0) = 27");
        s.hold(NO_SUCH_SESSION, "eventCount(0) = INVALID_ARGUMENT; eventCount(-1) = INVALID_ARGUMENT; openSession() = 0;",
                "eventCount(0) = 0; eventCount(1) = INVALID_ARGUMENT");
        s.holdForSessions(NO_SUCH_SESSION, "eventCount(6) = INVALID_ARGUMENT; outside eventCount(@); eventCount($l) = 0");
    }

    private void eventAt() {
        s.section("Promise 23");
        s.hold("Returns an event of a session", NODE, """
                openSession() = 1; watch(2, 1) = 1; setData(1, 0) = 1002; watch(0, 0) = 2; accept(0) = 1002;
                heartbeat(0) = 2; eventAt(1, 0) = 10021; eventAt(0, 0) = 10010; eventAt(1, 1) = NOT_FOUND
                """);
        s.holdForSessions(SESSION, "outside eventAt(@, 0); eventAt(0, 0) = NOT_FOUND; eventAt($l, 0) = NOT_FOUND");
        s.hold("event: number of an event, 0 or more", NODE, "eventAt(0, -1) = INVALID_ARGUMENT; eventAt(0, 0) = NOT_FOUND;",
                events(1, 2),
                "eventAt(0, -1) = INVALID_ARGUMENT; eventAt(0, 0) = 10021; eventAt(0, 1) = 10031; eventAt(0, 2) = NOT_FOUND");
        s.hold("Returns 10 times the identifier of the transaction plus the kind", """
                elect() = 2; openSession() = 0; /0; watch(2, 0) = 1; create(1, 0) = 1001; accept(0) = 1001; watch(2, 0) = 1;
                setData(1, 0) = 1002; accept(0) = 1002; watch(2, 0) = 1; closeSession(0) = 1003; accept(0) = 1003;
                eventAt(0, 0) = 10010; eventAt(0, 1) = 10021; eventAt(0, 2) = 10032; crash(2) = 2; elect() = 0;
                watch(0, 0) = 1; create(1, NONE) = 2001; accept(1) = 2001; eventAt(0, 3) = 20010; watch(0, 0) = 1;
                delete(0) = 2002; accept(1) = 2002; eventAt(0, 4) = 20022
                """);
        s.hold("Returns 10 times the identifier of the transaction plus the kind", NODE, events(1, 39),
                "eventAt(0, 38) = 10401; eventAt(0, 31) = 10331; eventAt(0, 30) = NOT_FOUND");
        String invalid = "INVALID_ARGUMENT if there is no such session or event is negative";
        s.hold(invalid, NODE, events(1, 9), """
                eventAt(0, -1) = INVALID_ARGUMENT; eventAt(0, -8) = INVALID_ARGUMENT; eventAt(0, MIN) = INVALID_ARGUMENT;
                eventAt(-1, 1) = INVALID_ARGUMENT; eventAt(1, 1) = INVALID_ARGUMENT; eventAt(6, 1) = INVALID_ARGUMENT;
                eventAt(MIN, 1) = INVALID_ARGUMENT; eventAt(MAX, 1) = INVALID_ARGUMENT; eventAt(0, 1) = 10031
                """);
        s.holdForSessions(invalid, "outside eventAt(@, 0); outside eventAt(@, -1); eventAt($l, -1) = INVALID_ARGUMENT;",
                "eventAt($l, 0) = NOT_FOUND");
        String missing = "NOT_FOUND if there is no such event, or it is not one of the latest 8";
        s.hold(missing, NODE, "eventAt(0, 0) = NOT_FOUND; eventAt(0, MAX) = NOT_FOUND;", events(1, 7), """
                eventAt(0, 0) = 10021; eventAt(0, 6) = 10081; eventAt(0, 7) = NOT_FOUND;""", events(8, 8), """
                eventAt(0, 0) = 10021; eventAt(0, 7) = 10091; eventAt(0, 8) = NOT_FOUND;""", events(9, 9), """
                eventAt(0, 0) = NOT_FOUND; eventAt(0, 1) = 10031; eventAt(0, 8) = 10101; eventAt(0, 9) = NOT_FOUND;
                eventAt(0, 16) = NOT_FOUND; eventAt(0, MAX) = NOT_FOUND; eventAt(0, 2147483640) = NOT_FOUND""");
        // Round the row of 8 for the second and third time.
        s.hold(missing, NODE, events(1, 16), "eventAt(0, 7) = NOT_FOUND; eventAt(0, 8) = 10101; eventAt(0, 15) = 10171;",
                "eventAt(0, 16) = NOT_FOUND;",
                events(17, 17), "eventAt(0, 8) = NOT_FOUND; eventAt(0, 9) = 10111; eventAt(0, 16) = 10181;",
                "eventAt(0, 17) = NOT_FOUND;",
                events(18, 25), "eventAt(0, 0) = NOT_FOUND; eventAt(0, 16) = NOT_FOUND; eventAt(0, 17) = 10191;",
                "eventAt(0, 24) = 10261; eventAt(0, 25) = NOT_FOUND");
    }
}
