/** Calls to which several error codes apply: every two of a method that can come together, in every way. */
final class OrderOfErrors {
    private static final String SENTENCE =
            "When several error codes apply to a call, the first one named at that method's return value is returned";
    /** The sessions 0 and 1, of which 1 is closed, the nodes /0, /0/0 and the ephemeral /1. */
    private static final String NODES = """
            elect() = 2; openSession() = 0; openSession() = 1; /0; create(1, NONE) = 1001; /0/0; create(1, NONE) = 1002;
            /1; create(1, 0) = 1003; closeSession(1) = 1004;
            """;
    /** The same, in a log that is full. */
    private static final String FULL = NODES + "/0;" + Sentences.sets(1, 5, 40);

    private final Sentences s;

    private OrderOfErrors(Sentences sentences) {
        s = sentences;
    }

    static void all(Sentences sentences) {
        OrderOfErrors group = new OrderOfErrors(sentences);
        sentences.section("Description");
        group.callsOfServers();
        group.names();
        group.creations();
        group.changes();
        group.deletions();
        group.closings();
        group.watches();
        group.events();
        group.readers();
    }

    private void callsOfServers() {
        s.hold(SENTENCE, """
                crash(0) = 2; crash(1) = 1; crash(2) = 0; crash(3) = INVALID_ARGUMENT; crash(-1) = INVALID_ARGUMENT;
                restart(0) = 1; restart(1) = 2; restart(2) = 3; restart(3) = INVALID_ARGUMENT; restart(-1) = INVALID_ARGUMENT
                """);
        // Without a leader every server would be refused, and so are numbers that are none.
        s.holdForServers(SENTENCE, "outside synchronize(@); outside accept(@); outside heartbeat(@);",
                "synchronize(0) = NOT_POSSIBLE; accept(0) = NOT_POSSIBLE; heartbeat(0) = NOT_POSSIBLE");
    }

    private void names() {
        s.hold(SENTENCE, "/0/0/0/0; appendName(6) = INVALID_ARGUMENT; appendName(-1) = INVALID_ARGUMENT;",
                "appendName(0) = CAPACITY_EXCEEDED");
    }

    private void creations() {
        s.hold(SENTENCE, """
                create(1000, NONE) = INVALID_ARGUMENT; create(-1, 0) = INVALID_ARGUMENT; create(1, 0) = INVALID_ARGUMENT;
                create(1, NONE) = NOT_POSSIBLE; openSession() = 0; create(1, 0) = NOT_POSSIBLE; appendName(0) = 1;
                create(1000, 0) = INVALID_ARGUMENT; create(1, 1) = INVALID_ARGUMENT; create(1, 0) = NOT_POSSIBLE;
                appendName(0) = 2; create(1, 1) = INVALID_ARGUMENT; create(1, NONE) = NOT_POSSIBLE
                """);
        String refused = """
                create(1000, NONE) = INVALID_ARGUMENT; create(-1, 1) = INVALID_ARGUMENT; create(1, 2) = INVALID_ARGUMENT;
                create(1, 1) = NOT_POSSIBLE;
                """;
        s.hold(SENTENCE, NODES,
                "/0;", refused, "create(1, 0) = ALREADY_EXISTS; create(1, NONE) = ALREADY_EXISTS;",
                "/;", refused, "create(1, 0) = ALREADY_EXISTS; create(1, NONE) = ALREADY_EXISTS;",
                "/2/2;", refused, "create(1, 0) = NOT_FOUND; create(1, NONE) = NOT_FOUND;",
                "/1/1;", refused, "create(1, 0) = NOT_FOUND; create(1, NONE) = NOT_FOUND");
        s.hold(SENTENCE, FULL,
                "/0;", refused, "create(1, 0) = ALREADY_EXISTS; create(1, NONE) = ALREADY_EXISTS;",
                "/;", refused, "create(1, 0) = ALREADY_EXISTS;", "/2/2;", refused, "create(1, 0) = NOT_FOUND;",
                "/1/1;", refused, "create(1, 0) = NOT_FOUND;", "/2;", refused, "create(1, 0) = CAPACITY_EXCEEDED");
        s.hold(SENTENCE, NODES, Sentences.each(2, 5, i -> "/" + i + "; create(1, NONE) = " + (1003 + i)),
                Sentences.each(1, 5, i -> "/0/" + i + "; create(1, NONE) = " + (1008 + i)),
                "/0;", refused, "create(1, 0) = ALREADY_EXISTS;", "/;", refused, "create(1, 0) = ALREADY_EXISTS;",
                "/2/2/2;", refused, "create(1, 0) = NOT_FOUND;", "/1/1;", refused, "create(1, 0) = NOT_FOUND;",
                "/2/2;", refused, "create(1, 0) = CAPACITY_EXCEEDED; create(1, NONE) = CAPACITY_EXCEEDED");
    }

    private void changes() {
        String invalid = "setData(1000, 0) = INVALID_ARGUMENT; setData(-1, 0) = INVALID_ARGUMENT; setData(1, -1) = INVALID_ARGUMENT;"
                + "setData(1, NONE) = INVALID_ARGUMENT;";
        s.hold(SENTENCE, invalid, "setData(1, 0) = NOT_POSSIBLE; /0;", invalid, "setData(1, 0) = NOT_POSSIBLE");
        String[] states = {NODES, FULL};
        for (String state : states) {
            s.hold(SENTENCE, state, "/;", invalid, "setData(1, ANY_VERSION) = NOT_POSSIBLE; setData(1, 7) = NOT_POSSIBLE;",
                    "/2;", invalid, "setData(1, 0) = NOT_FOUND; setData(1, 7) = NOT_FOUND; setData(1, ANY_VERSION) = NOT_FOUND;",
                    "/1;", invalid, "setData(1, 7) = BAD_VERSION");
        }
        s.hold(SENTENCE, FULL, "/1;", invalid, "setData(1, 0) = CAPACITY_EXCEEDED; setData(1, ANY_VERSION) = CAPACITY_EXCEEDED");
    }

    private void deletions() {
        String invalid = "delete(-1) = INVALID_ARGUMENT; delete(NONE) = INVALID_ARGUMENT; delete(-10) = INVALID_ARGUMENT;";
        s.hold(SENTENCE, invalid, "delete(0) = NOT_POSSIBLE; /0;", invalid, "delete(0) = NOT_POSSIBLE");
        String[] states = {NODES, FULL};
        for (String state : states) {
            s.hold(SENTENCE, state, "/;", invalid, "delete(ANY_VERSION) = NOT_POSSIBLE; delete(7) = NOT_POSSIBLE;",
                    "/2;", invalid, "delete(0) = NOT_FOUND; delete(7) = NOT_FOUND; delete(ANY_VERSION) = NOT_FOUND;",
                    "/1;", invalid, "delete(7) = BAD_VERSION;",
                    "/0;", invalid, "delete(40) = BAD_VERSION; delete(ANY_VERSION) = NOT_EMPTY");
        }
        s.hold(SENTENCE, FULL, "/1;", invalid, "delete(0) = CAPACITY_EXCEEDED; delete(ANY_VERSION) = CAPACITY_EXCEEDED;",
                "/0; delete(36) = NOT_EMPTY");
    }

    private void closings() {
        s.hold(SENTENCE, "closeSession(0) = INVALID_ARGUMENT; openSession() = 0; closeSession(1) = INVALID_ARGUMENT;",
                "closeSession(-1) = INVALID_ARGUMENT; closeSession(0) = NOT_POSSIBLE");
        s.hold(SENTENCE, FULL, "closeSession(2) = INVALID_ARGUMENT; closeSession(-1) = INVALID_ARGUMENT;",
                "closeSession(1) = NOT_POSSIBLE; closeSession(0) = CAPACITY_EXCEEDED");
    }

    private void watches() {
        s.hold(SENTENCE, """
                watch(3, 0) = INVALID_ARGUMENT; watch(0, 0) = INVALID_ARGUMENT; crash(1) = 2; watch(1, 0) = INVALID_ARGUMENT;
                openSession() = 0; watch(3, 0) = INVALID_ARGUMENT; watch(1, 1) = INVALID_ARGUMENT; watch(1, 0) = NOT_POSSIBLE;
                watch(0, 0) = NOT_POSSIBLE; appendName(0) = 1; watch(1, 0) = NOT_POSSIBLE; watch(1, 1) = INVALID_ARGUMENT
                """);
        s.hold(SENTENCE, "openSession() = 0; crash(1) = 2; /0;", Sentences.each(1, 10, i -> "watch(0, 0) = " + i), """
                watch(3, 0) = INVALID_ARGUMENT; watch(-1, 0) = INVALID_ARGUMENT; watch(0, 1) = INVALID_ARGUMENT;
                watch(1, 0) = NOT_POSSIBLE; watch(0, 0) = CAPACITY_EXCEEDED; clearPath() = 1; watch(3, 0) = INVALID_ARGUMENT;
                watch(0, 1) = INVALID_ARGUMENT; watch(0, 0) = NOT_POSSIBLE; watch(1, 0) = NOT_POSSIBLE
                """);
    }

    private void events() {
        s.hold(SENTENCE, """
                eventAt(0, 0) = INVALID_ARGUMENT; eventAt(0, -1) = INVALID_ARGUMENT; openSession() = 0; eventAt(1, 0) = INVALID_ARGUMENT;
                eventAt(1, -1) = INVALID_ARGUMENT; eventAt(0, -1) = INVALID_ARGUMENT; eventAt(0, -8) = INVALID_ARGUMENT;
                eventAt(0, MIN) = INVALID_ARGUMENT; eventAt(0, 0) = NOT_FOUND
                """);
    }

    private void readers() {
        for (String name : new String[] {"dataAt", "versionAt", "ownerAt"}) {
            String call = name + "(@)";
            s.holdForServers(SENTENCE, "outside " + call, name + "(0) = NOT_POSSIBLE; /0; outside " + call,
                    name + "(0) = NOT_FOUND");
        }
        s.holdForServers(SENTENCE, "/0; outside childCount(@); childCount(0) = NOT_FOUND");
    }
}
