/** The sentences of promises 24 to 28: what the trees of the servers hold. */
final class TreeSentences {
    private static final String SERVER = "server: number of a server";
    private static final String NO_SUCH_SERVER = "INVALID_ARGUMENT if there is no such server";
    private static final String NO_SUCH_NODE = "NOT_FOUND if there is no such node";
    private static final String AS_FOR_DATA = "INVALID_ARGUMENT, NOT_POSSIBLE and NOT_FOUND as for dataAt";
    /** Node /0 of no owner with data 0, node /0/5 of session 1 with data 999,
            changed from 7; server 0 has not applied the change. */
    private static final String NODES = """
            elect() = 2; openSession() = 0; openSession() = 1; /0; create(0, NONE) = 1001; /0/5; create(7, 1) = 1002;
            setData(999, 0) = 1003; accept(0) = 1001; accept(0) = 1002; heartbeat(0) = 2; accept(0) = 1003;
            """;

    private final Sentences s;

    private TreeSentences(Sentences sentences) {
        s = sentences;
    }

    static void all(Sentences sentences) {
        TreeSentences group = new TreeSentences(sentences);
        group.dataAt();
        group.versionAt();
        group.ownerAt();
        group.childCount();
        group.nodeCount();
    }

    private void dataAt() {
        s.section("Promise 24");
        s.hold("Returns the data of the node with the path in the buffer in the tree of a server, whether the server is up or down", NODES, """
                dataAt(2) = 999; dataAt(0) = 7; dataAt(1) = NOT_FOUND; crash(0) = 2; dataAt(0) = 7; crash(2) = 1;
                dataAt(2) = 999; dataAt(1) = NOT_FOUND; crash(1) = 0; dataAt(2) = 999; dataAt(0) = 7; dataAt(1) = NOT_FOUND;
                /0; dataAt(2) = 0; dataAt(0) = 0
                """);
        numberOfServer("dataAt");
        s.hold("Returns the data", NODES, "dataAt(2) = 999; /0; dataAt(2) = 0; setData(5, 0) = 1004; dataAt(2) = 0;",
                "accept(0) = 1004; dataAt(2) = 5");
        s.holdForServers(NO_SUCH_SERVER, "outside dataAt(@); appendName(0) = 1; outside dataAt(@); dataAt($l) = NOT_FOUND");
        s.hold("NOT_POSSIBLE if the path is empty", NODES, "clearPath() = 2; dataAt(0) = NOT_POSSIBLE;",
                "dataAt(1) = NOT_POSSIBLE; dataAt(2) = NOT_POSSIBLE; appendName(0) = 1; dataAt(2) = 0");
        missing(NO_SUCH_NODE, "dataAt");
    }

    /** The first and the last server have the node /0. */
    private void numberOfServer(String name) {
        s.holdForServers(SERVER, "elect() = $l; openSession() = 0; /0; create(0, 0) = 1001; accept(0) = 1001;",
                "accept(1) = 1001; heartbeat(0) = 1; outside " + name + "(@);", name + "(0) = 0;", name + "($l) = 0");
    }

    private void missing(String sentence, String name) {
        s.hold(sentence, NODES, """
                /1; @(2) = NOT_FOUND; /5; @(2) = NOT_FOUND; /0/0; @(2) = NOT_FOUND; /0/5/0; @(2) = NOT_FOUND; /0/5/0/0;
                @(2) = NOT_FOUND; /5/0; @(2) = NOT_FOUND; /0/4; @(2) = NOT_FOUND; /0; @(1) = NOT_FOUND; /1;
                create(1, NONE) = 1004; @(2) = NOT_FOUND
                """.replace("@", name));
        s.hold(sentence, NODES, "delete(1) = 1004; accept(0) = 1004;", name + "(2) = NOT_FOUND; heartbeat(0) = 2;",
                name + "(0) = NOT_FOUND");
    }

    private void asForData(String name) {
        s.holdForServers(AS_FOR_DATA, "outside " + name + "(@);", name + "(0) = NOT_POSSIBLE;", name + "($l) = NOT_POSSIBLE;",
                "appendName(0) = 1; outside " + name + "(@);", name + "(0) = NOT_FOUND;", name + "($l) = NOT_FOUND");
        s.hold(AS_FOR_DATA, NODES, "clearPath() = 2;", name + "(0) = NOT_POSSIBLE;", name + "(2) = NOT_POSSIBLE");
        missing(AS_FOR_DATA, name);
    }

    private void versionAt() {
        s.section("Promise 25");
        s.hold("Returns the version of the node with the path in the buffer in the tree of a server", NODES, """
                versionAt(2) = 1; versionAt(0) = 0; crash(0) = 2; versionAt(0) = 0; crash(2) = 1; versionAt(2) = 1; /0;
                versionAt(2) = 0; versionAt(0) = 0; versionAt(1) = NOT_FOUND
                """);
        numberOfServer("versionAt");
        s.hold("Returns the version", "elect() = 2;", Sentences.FULL_LOG, "accept(0) = 1001; versionAt(2) = 0; accept(0) = 1002;",
                "versionAt(2) = 1;",
                Sentences.accepts(0, 1, 3, 40), "versionAt(2) = 39");
        s.hold("Returns the version", NODES, "delete(1) = 1004; create(3, NONE) = 1005; accept(0) = 1004;",
                "versionAt(2) = NOT_FOUND; accept(0) = 1005; versionAt(2) = 0");
        asForData("versionAt");
    }

    private void ownerAt() {
        s.section("Promise 26");
        s.hold("Returns the owner of the node with the path in the buffer in the tree of a server", NODES, """
                ownerAt(2) = 1; ownerAt(0) = 1; crash(0) = 2; ownerAt(0) = 1; crash(2) = 1; ownerAt(2) = 1; /0;
                ownerAt(2) = NONE; ownerAt(0) = NONE; ownerAt(1) = NOT_FOUND
                """);
        numberOfServer("ownerAt");
        s.hold("Returns the owner, or NONE if the node is not ephemeral", "elect() = 2;", Sentences.each(0, 5,
                i -> "openSession() = " + i),
                Sentences.each(0, 5, i -> "/" + i + "; create(1, " + i + ") = " + (1001 + i)), Sentences.accepts(0, 1, 1, 6),
                Sentences.each(0, 5, i -> "/" + i + "; ownerAt(2) = " + i),
                "delete(0) = 1007; create(1, NONE) = 1008; accept(0) = 1007; accept(0) = 1008; ownerAt(2) = NONE");
        asForData("ownerAt");
    }

    private void childCount() {
        s.section("Promise 27");
        String sentence = "Counts the children of the node with the path in the buffer (possibly the root) in the tree of a server";
        s.hold(sentence, NODES, """
                childCount(2) = 0; /0; childCount(2) = 1; childCount(0) = 1; childCount(1) = NOT_FOUND; /;
                childCount(2) = 1; childCount(1) = 0; crash(2) = 2; childCount(2) = 1; /0; childCount(2) = 1
                """);
        s.holdForServers(SERVER, "outside childCount(@); childCount(0) = 0; childCount($l) = 0; elect() = $l; /0;",
                "create(0, NONE) = 1001;",
                "accept(0) = 1001; accept(1) = 1001; heartbeat(0) = 1; childCount(0) = 0; childCount($l) = 0; /;",
                "childCount($l) = 1");
        String answer = "Returns the number of children";
        s.hold(answer, "elect() = 2;", Sentences.TWELVE_NODES, "/; childCount(2) = 0;", Sentences.accepts(0, 1, 1, 12),
                "childCount(2) = 6; childCount(1) = 0; /0; childCount(2) = 6; /1; childCount(2) = 0; /0/0; childCount(2) = 0;",
                "/0/5; delete(0) = 1013; accept(0) = 1013; /0; childCount(2) = 5; /; childCount(2) = 6");
        s.hold(answer, "elect() = 2; /0; create(1, NONE) = 1001; /0/0; create(1, NONE) = 1002; /0/0/0; create(1, NONE) = 1003;",
                "/0/0/0/0;",
                "create(1, NONE) = 1004;", Sentences.accepts(0, 1, 1, 4), "childCount(2) = 0; /0/0/0; childCount(2) = 1; /0/0;",
                "childCount(2) = 1; /0; childCount(2) = 1; /; childCount(2) = 1");
        s.holdForServers(NO_SUCH_SERVER, "outside childCount(@); /0; outside childCount(@); /; childCount($l) = 0");
        missing(NO_SUCH_NODE, "childCount");
        s.holdForServers(NO_SUCH_NODE, "/0; childCount(0) = NOT_FOUND; childCount($l) = NOT_FOUND; /0/0/0/0;",
                "childCount(0) = NOT_FOUND");
    }

    private void nodeCount() {
        s.section("Promise 28");
        s.hold("Counts the nodes of the tree of a server, the root not included", NODES, """
                nodeCount(2) = 2; nodeCount(0) = 2; nodeCount(1) = 0; crash(2) = 2; nodeCount(2) = 2; clearPath() = 2;
                nodeCount(2) = 2
                """);
        s.holdForServers(SERVER, "outside nodeCount(@); nodeCount(0) = 0; nodeCount($l) = 0");
        s.hold("Returns the number of nodes", "elect() = 2; nodeCount(2) = 0;", Sentences.TWELVE_NODES,
                "nodeCount(2) = 0; accept(0) = 1001;",
                "nodeCount(2) = 1;", Sentences.accepts(0, 1, 2, 12), "nodeCount(2) = 12; nodeCount(0) = 0; heartbeat(0) = 12;",
                "nodeCount(0) = 12; delete(0) = 1013; accept(0) = 1013; nodeCount(2) = 11; nodeCount(0) = 12");
        s.holdForServers(NO_SUCH_SERVER, "elect() = $l; outside nodeCount(@); nodeCount($l) = 0");
    }
}
