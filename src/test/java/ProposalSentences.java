/** The sentences of promises 14 to 18: the path buffer, and proposals that create, set and delete nodes. */
final class ProposalSentences {
    private static final String IDENTIFIER = "Returns the identifier of the transaction";
    private static final String VERSION =
            "version: the version that is expected in the proposed tree, 0 or more, or ANY_VERSION";
    private static final String NO_LEADER_OR_PATH = "NOT_POSSIBLE if there is no leader or the path is empty";
    private static final String NO_NODE = "NOT_FOUND if the node does not exist in the proposed tree";
    private static final String OTHER_VERSION = "BAD_VERSION if it has another version";
    private static final String FULL = "CAPACITY_EXCEEDED if the leader's log has 40 transactions";

    private final Sentences s;

    private ProposalSentences(Sentences sentences) {
        s = sentences;
    }

    static void all(Sentences sentences) {
        ProposalSentences group = new ProposalSentences(sentences);
        group.appendName();
        group.clearPath();
        group.create();
        group.createRefused();
        group.createWithoutRoom();
        group.setData();
        group.setDataRefused();
        group.delete();
        group.deleteRefused();
    }

    private void appendName() {
        s.section("Promise 14");
        s.hold("Appends a name to the path buffer", """
                elect() = 2; appendName(1) = 1; create(7, NONE) = 1001; appendName(2) = 2; create(8, NONE) = 1002;
                accept(0) = 1001; accept(0) = 1002; dataAt(2) = 8; clearPath() = 2; appendName(1) = 1; dataAt(2) = 7;
                clearPath() = 1; appendName(2) = 1; dataAt(2) = NOT_FOUND; appendName(1) = 2; dataAt(2) = NOT_FOUND
                """);
        // All names, at the first place and at the last one, are told apart.
        s.hold("name: 0 to 5", "elect() = 2;", Sentences.each(0, 5, i -> "/" + i + "; create(" + i + ", NONE) = " + (1001 + i)),
                Sentences.accepts(0, 1, 1, 6), Sentences.each(0, 5, i -> "/" + i + "; dataAt(2) = " + i));
        s.hold("name: 0 to 5", "elect() = 2; /5; create(1, NONE) = 1001; /5/0; create(1, NONE) = 1002; /5/0/5;",
                "create(1, NONE) = 1003;",
                Sentences.each(0, 5, i -> "/5/0/5/" + i + "; create(" + i + ", NONE) = " + (1004 + i)),
                Sentences.accepts(0, 1, 1, 9), Sentences.each(0, 5, i -> "/5/0/5/" + i + "; dataAt(2) = " + i));
        s.hold("name: 0 to 5", "appendName(-1) = INVALID_ARGUMENT; appendName(0) = 1; appendName(5) = 2;",
                "appendName(6) = INVALID_ARGUMENT");
        s.hold("Returns the new number of names", "appendName(5) = 1; appendName(4) = 2; appendName(0) = 3; appendName(1) = 4;",
                "clearPath() = 4; appendName(0) = 1; clearPath() = 1; appendName(5) = 1; reset(3) = 3; appendName(5) = 1");
        s.hold("INVALID_ARGUMENT if name is out of range", """
                appendName(2) = 1; appendName(6) = INVALID_ARGUMENT; appendName(-1) = INVALID_ARGUMENT;
                appendName(7) = INVALID_ARGUMENT; appendName(8) = INVALID_ARGUMENT; appendName(-8) = INVALID_ARGUMENT;
                appendName(256) = INVALID_ARGUMENT; appendName(MAX) = INVALID_ARGUMENT; appendName(MIN) = INVALID_ARGUMENT;
                appendName(5) = 2; clearPath() = 2
                """);
        s.hold("CAPACITY_EXCEEDED if the buffer has 4 names", """
                appendName(0) = 1; appendName(0) = 2; appendName(0) = 3; appendName(0) = 4;
                appendName(0) = CAPACITY_EXCEEDED; appendName(5) = CAPACITY_EXCEEDED; clearPath() = 4; appendName(0) = 1
                """);
        s.hold("CAPACITY_EXCEEDED if the buffer has 4 names", "elect() = 2; /1; create(1, NONE) = 1001; /1/2;",
                "create(2, NONE) = 1002;",
                "/1/2/3; create(3, NONE) = 1003; /1/2/3/4; create(4, NONE) = 1004; appendName(5) = CAPACITY_EXCEEDED;",
                Sentences.accepts(0, 1, 1, 4), "dataAt(2) = 4; appendName(4) = CAPACITY_EXCEEDED; dataAt(2) = 4");
    }

    private void clearPath() {
        s.section("Promise 15");
        s.hold("Empties the path buffer", "/1/2/3/4; dataAt(0) = NOT_FOUND; clearPath() = 4; dataAt(0) = NOT_POSSIBLE;",
                "childCount(0) = 0; clearPath() = 0; dataAt(0) = NOT_POSSIBLE; appendName(1) = 1");
        s.hold("Returns the number of names it had", """
                clearPath() = 0; appendName(1) = 1; clearPath() = 1; appendName(1) = 1; appendName(2) = 2; clearPath() = 2;
                appendName(0) = 1; appendName(0) = 2; appendName(0) = 3; clearPath() = 3; appendName(0) = 1;
                appendName(0) = 2; appendName(0) = 3; appendName(0) = 4; clearPath() = 4; clearPath() = 0
                """);
    }

    private void create() {
        s.section("Promise 16");
        s.hold("Proposes a CREATE transaction for the path in the buffer", """
                elect() = 2; /3; create(7, NONE) = 1001; nodeCount(2) = 0; lastIdentifier(2) = 1001; committedCount() = 0;
                accept(1) = 1001; dataAt(2) = 7; nodeCount(2) = 1; clearPath() = 1; childCount(2) = 1
                """);
        s.hold("data: 0 to 999", "elect() = 2; /0; create(-1, NONE) = INVALID_ARGUMENT; create(0, NONE) = 1001; /1;",
                "create(1000, NONE) = INVALID_ARGUMENT; create(999, NONE) = 1002; accept(0) = 1001; accept(0) = 1002;",
                "dataAt(2) = 999; /0; dataAt(2) = 0");
        String owner = "owner: NONE, or the number of a session, the owner";
        s.holdForSessions(owner, "elect() = 2; /0; create(1, NONE) = 1001;",
                "/1; create(1, 0) = 1002; /2; create(1, $l) = 1003; /3; create(1, $n) = INVALID_ARGUMENT;",
                "create(1, -1) = INVALID_ARGUMENT;",
                Sentences.accepts(0, 1, 1, 3), "/0; ownerAt(2) = NONE; /1; ownerAt(2) = 0; /2; ownerAt(2) = $l");
        s.hold(IDENTIFIER, "elect() = 2;", Sentences.TWELVE_NODES, "lastIdentifier(2) = 1012; crash(2) = 2; elect() = 1;",
                "/5; create(1, NONE) = 2001; lastIdentifier(1) = 2001");
    }

    private void createRefused() {
        String invalid = "INVALID_ARGUMENT if data is out of range or owner is neither NONE nor an existing session";
        s.hold(invalid, "elect() = 2; /0;", """
                create(-1, NONE) = INVALID_ARGUMENT; create(1000, NONE) = INVALID_ARGUMENT;
                create(NONE, NONE) = INVALID_ARGUMENT; create(MIN, NONE) = INVALID_ARGUMENT;
                create(MAX, NONE) = INVALID_ARGUMENT; create(0, 0) = INVALID_ARGUMENT; create(0, -1) = INVALID_ARGUMENT;
                create(0, ANY_VERSION) = INVALID_ARGUMENT; create(0, -7) = INVALID_ARGUMENT;
                create(0, MIN) = INVALID_ARGUMENT; create(0, MAX) = INVALID_ARGUMENT; openSession() = 0;
                create(0, 1) = INVALID_ARGUMENT; create(1000, 0) = INVALID_ARGUMENT; create(0, 0) = 1001
                """);
        s.holdForSessions(invalid, "elect() = 2; /0; create(1, $n) = INVALID_ARGUMENT; create(1, 6) = INVALID_ARGUMENT;",
                "create(1, 256) = INVALID_ARGUMENT; create(1, -1) = INVALID_ARGUMENT; create(1, $l) = 1001");
        String refused = "NOT_POSSIBLE if there is no leader or the owner is closed";
        s.hold(refused, """
                openSession() = 0; /0; create(1, NONE) = NOT_POSSIBLE; create(1, 0) = NOT_POSSIBLE; elect() = 2;
                create(1, NONE) = 1001; crash(2) = 2; create(1, NONE) = NOT_POSSIBLE; create(1, 0) = NOT_POSSIBLE;
                clearPath() = 1; create(1, NONE) = NOT_POSSIBLE
                """);
        s.hold(refused, """
                elect() = 2; openSession() = 0; openSession() = 1; closeSession(0) = 1001; /0; create(1, 0) = NOT_POSSIBLE;
                create(1, 1) = 1002; /1; create(1, 0) = NOT_POSSIBLE; create(1, NONE) = 1003
                """);
        // Of 6 sessions the first and the last are closed.
        s.hold(refused, "elect() = 2;", Sentences.each(0, 5, i -> "openSession() = " + i),
                "closeSession(0) = 1001; closeSession(5) = 1002;",
                "/0; create(1, 0) = NOT_POSSIBLE; create(1, 5) = NOT_POSSIBLE; create(1, 4) = 1003; /1; create(1, 1) = 1004");
        String exists = "ALREADY_EXISTS if the node exists in the proposed tree (the root always does)";
        s.hold(exists, """
                elect() = 2; openSession() = 0; create(1, NONE) = ALREADY_EXISTS; create(1, 0) = ALREADY_EXISTS; /0;
                create(1, 0) = 1001; create(1, 0) = ALREADY_EXISTS; create(2, NONE) = ALREADY_EXISTS; delete(0) = 1002;
                create(2, NONE) = 1003; create(2, NONE) = ALREADY_EXISTS; nodeCount(2) = 0
                """);
        s.hold(exists, """
                elect() = 2; openSession() = 0; /0; create(1, 0) = 1001; accept(0) = 1001; closeSession(0) = 1002;
                dataAt(2) = 1; create(1, NONE) = 1003; create(1, NONE) = ALREADY_EXISTS
                """);
        String parent = "NOT_FOUND if its parent does not exist in it, or is ephemeral";
        s.hold(parent, """
                elect() = 2; openSession() = 0; /0/1; create(1, NONE) = NOT_FOUND; /0/1/2/3; create(1, NONE) = NOT_FOUND;
                /0; create(1, NONE) = 1001; /0/1; create(1, 0) = 1002; /0/1/2; create(1, NONE) = NOT_FOUND;
                create(1, 0) = NOT_FOUND; /0/2; create(1, NONE) = 1003; /0/2/2; create(1, 0) = 1004; /0/2/2/2;
                create(1, 0) = NOT_FOUND; /1; create(1, 0) = 1005; /1/0; create(1, NONE) = NOT_FOUND
                """);
        s.hold(parent, """
                elect() = 2; /0; create(1, NONE) = 1001; accept(0) = 1001; delete(0) = 1002; /0/0; dataAt(2) = NOT_FOUND;
                create(1, NONE) = NOT_FOUND; /0; dataAt(2) = 1; create(1, NONE) = 1003; /0/0; create(1, NONE) = 1004
                """);
    }

    private void createWithoutRoom() {
        String sentence = "CAPACITY_EXCEEDED if the proposed tree has 12 nodes besides the root, or if the leader's log has 40 transactions";
        s.hold(sentence, "elect() = 2;", Sentences.ELEVEN_NODES, "/1/1; create(1, NONE) = 1012; /1/2;",
                "create(1, NONE) = CAPACITY_EXCEEDED;",
                Sentences.accepts(0, 1, 1, 12), "nodeCount(2) = 12; create(1, NONE) = CAPACITY_EXCEEDED; /1/1;",
                "delete(0) = 1013;",
                "nodeCount(2) = 12; /1/2; create(1, NONE) = 1014; accept(0) = 1013; nodeCount(2) = 11; accept(0) = 1014;",
                "nodeCount(2) = 12;",
                "dataAt(2) = 1; /1/1; create(1, NONE) = CAPACITY_EXCEEDED; heartbeat(0) = 14; nodeCount(0) = 12");
        s.hold(sentence, "elect() = 2; openSession() = 0;", Sentences.ELEVEN_NODES, "/1/1; create(1, 0) = 1012;",
                "/1/2; create(1, NONE) = CAPACITY_EXCEEDED; create(1, 0) = CAPACITY_EXCEEDED; closeSession(0) = 1013;",
                "create(1, NONE) = 1014; /1/1; create(1, NONE) = CAPACITY_EXCEEDED");
        s.hold(sentence, "elect() = 2;", Sentences.LOG_OF_39, "/1; create(9, NONE) = 1040; /2;",
                "create(1, NONE) = CAPACITY_EXCEEDED;",
                Sentences.accepts(0, 1, 1, 40), "create(1, NONE) = CAPACITY_EXCEEDED; nodeCount(2) = 2; /1; dataAt(2) = 9");
        // What the leader does not know takes no room.
        s.hold(sentence, "elect() = 2;", Sentences.FULL_LOG, "/1; create(1, NONE) = CAPACITY_EXCEEDED; crash(2) = 2;",
                "elect() = 1; create(1, NONE) = 2001");
        s.hold(sentence, "elect() = 2;", Sentences.FULL_LOG, Sentences.accepts(1, 1, 1, 39), "crash(2) = 2; elect() = 1;",
                "/1; create(1, NONE) = 2001; /2; create(1, NONE) = CAPACITY_EXCEEDED; lastIdentifier(1) = 2001");
    }

    private void setData() {
        s.section("Promise 17");
        s.hold("Proposes a SET transaction for the path in the buffer", """
                elect() = 2; /0; create(1, NONE) = 1001; /1; create(2, NONE) = 1002; setData(9, 0) = 1003; accept(0) = 1001;
                accept(0) = 1002; dataAt(2) = 2; versionAt(2) = 0; accept(0) = 1003; dataAt(2) = 9; versionAt(2) = 1; /0;
                dataAt(2) = 1; versionAt(2) = 0
                """);
        s.hold("data: 0 to 999", "elect() = 2; /0; create(1, NONE) = 1001; setData(-1, 0) = INVALID_ARGUMENT;",
                "setData(0, 0) = 1002;",
                "setData(1000, 1) = INVALID_ARGUMENT; setData(999, 1) = 1003;", Sentences.accepts(0, 1, 1, 2),
                "dataAt(2) = 0; accept(0) = 1003; dataAt(2) = 999");
        s.hold(VERSION, """
                elect() = 2; /0; create(1, NONE) = 1001; setData(1, -1) = INVALID_ARGUMENT;
                setData(1, NONE) = INVALID_ARGUMENT; setData(1, -10) = INVALID_ARGUMENT; setData(1, 0) = 1002;
                setData(1, 1) = 1003; setData(1, ANY_VERSION) = 1004; setData(1, 3) = 1005; setData(1, MAX) = BAD_VERSION
                """);
        s.hold(IDENTIFIER, "elect() = 2;", Sentences.LOG_OF_39, "setData(1, 38) = 1040; lastIdentifier(2) = 1040");
    }

    private void setDataRefused() {
        s.hold("INVALID_ARGUMENT if an argument is out of range", "elect() = 2; /0; create(1, NONE) = 1001;", """
                setData(-1, 0) = INVALID_ARGUMENT; setData(1000, 0) = INVALID_ARGUMENT; setData(MIN, 0) = INVALID_ARGUMENT;
                setData(MAX, 0) = INVALID_ARGUMENT; setData(NONE, 0) = INVALID_ARGUMENT; setData(0, -1) = INVALID_ARGUMENT;
                setData(0, NONE) = INVALID_ARGUMENT; setData(0, -10) = INVALID_ARGUMENT; setData(0, MIN) = INVALID_ARGUMENT;
                setData(1000, -1) = INVALID_ARGUMENT; setData(1000, ANY_VERSION) = INVALID_ARGUMENT; setData(999, 0) = 1002
                """);
        s.hold(NO_LEADER_OR_PATH, """
                setData(1, 0) = NOT_POSSIBLE; /0; setData(1, 0) = NOT_POSSIBLE; elect() = 2; create(1, NONE) = 1001;
                accept(0) = 1001; clearPath() = 1; setData(1, 0) = NOT_POSSIBLE; setData(1, ANY_VERSION) = NOT_POSSIBLE;
                appendName(0) = 1; crash(2) = 2; setData(1, 0) = NOT_POSSIBLE; setData(1, ANY_VERSION) = NOT_POSSIBLE;
                elect() = 0; setData(1, 0) = 2001
                """);
        s.hold(NO_NODE, """
                elect() = 2; /0; setData(1, 0) = NOT_FOUND; setData(1, ANY_VERSION) = NOT_FOUND; create(1, NONE) = 1001;
                /0/0; setData(1, 0) = NOT_FOUND; /1; setData(1, 0) = NOT_FOUND; /0; accept(0) = 1001; delete(0) = 1002;
                dataAt(2) = 1; setData(1, 0) = NOT_FOUND; lastIdentifier(2) = 1002
                """);
        s.hold(OTHER_VERSION, """
                elect() = 2; /0; create(1, NONE) = 1001; setData(1, 1) = BAD_VERSION; setData(1, MAX) = BAD_VERSION;
                setData(1, 0) = 1002; setData(1, 0) = BAD_VERSION; setData(1, 2) = BAD_VERSION; accept(0) = 1001;
                versionAt(2) = 0; setData(1, 0) = BAD_VERSION; setData(1, 1) = 1003; delete(2) = 1004;
                create(1, NONE) = 1005; setData(1, 2) = BAD_VERSION; setData(1, 0) = 1006
                """);
        s.hold(FULL, "elect() = 2;", Sentences.LOG_OF_39, "setData(1, 38) = 1040; setData(1, 39) = CAPACITY_EXCEEDED;",
                "setData(1, ANY_VERSION) = CAPACITY_EXCEEDED;", Sentences.accepts(0, 1, 1, 40),
                "setData(1, 39) = CAPACITY_EXCEEDED; versionAt(2) = 39; dataAt(2) = 1");
        // The log of a new leader is full of the transactions of an older epoch.
        s.hold(FULL, "elect() = 2;", Sentences.FULL_LOG, Sentences.accepts(1, 1, 1, 40), "crash(2) = 2; elect() = 1;",
                "setData(1, 39) = CAPACITY_EXCEEDED; committedCount() = 40");
    }

    private void delete() {
        s.section("Promise 18");
        s.hold("Proposes a DELETE transaction for the path in the buffer", """
                elect() = 2; /0; create(1, NONE) = 1001; /1; create(2, NONE) = 1002; delete(0) = 1003; accept(0) = 1001;
                accept(0) = 1002; dataAt(2) = 2; accept(0) = 1003; dataAt(2) = NOT_FOUND; nodeCount(2) = 1; /0;
                dataAt(2) = 1
                """);
        s.hold(VERSION, """
                elect() = 2; /0; create(1, NONE) = 1001; delete(-1) = INVALID_ARGUMENT; delete(NONE) = INVALID_ARGUMENT;
                delete(-10) = INVALID_ARGUMENT; delete(MAX) = BAD_VERSION; delete(0) = 1002; create(1, NONE) = 1003;
                setData(1, 0) = 1004; delete(1) = 1005; create(1, NONE) = 1006; setData(1, 0) = 1007;
                delete(ANY_VERSION) = 1008
                """);
        s.hold(IDENTIFIER, "elect() = 2;", Sentences.LOG_OF_39, "delete(38) = 1040; lastIdentifier(2) = 1040");
    }

    private void deleteRefused() {
        s.hold("INVALID_ARGUMENT if version is out of range", "elect() = 2; /0; create(1, NONE) = 1001;", """
                delete(-1) = INVALID_ARGUMENT; delete(NONE) = INVALID_ARGUMENT; delete(-10) = INVALID_ARGUMENT;
                delete(MIN) = INVALID_ARGUMENT; delete(-2) = INVALID_ARGUMENT; delete(0) = 1002
                """);
        s.hold(NO_LEADER_OR_PATH, """
                delete(0) = NOT_POSSIBLE; /0; delete(ANY_VERSION) = NOT_POSSIBLE; elect() = 2; create(1, NONE) = 1001;
                accept(0) = 1001; clearPath() = 1; delete(0) = NOT_POSSIBLE; delete(ANY_VERSION) = NOT_POSSIBLE;
                appendName(0) = 1; crash(2) = 2; delete(0) = NOT_POSSIBLE; delete(ANY_VERSION) = NOT_POSSIBLE; elect() = 0;
                delete(0) = 2001
                """);
        s.hold(NO_NODE, """
                elect() = 2; /0; delete(0) = NOT_FOUND; delete(ANY_VERSION) = NOT_FOUND; create(1, NONE) = 1001; /0/0;
                delete(0) = NOT_FOUND; /1; delete(0) = NOT_FOUND; /0; accept(0) = 1001; delete(0) = 1002; dataAt(2) = 1;
                delete(0) = NOT_FOUND; delete(ANY_VERSION) = NOT_FOUND; lastIdentifier(2) = 1002
                """);
        s.hold(OTHER_VERSION, """
                elect() = 2; /0; create(1, NONE) = 1001; delete(1) = BAD_VERSION; delete(MAX) = BAD_VERSION;
                setData(1, 0) = 1002; delete(0) = BAD_VERSION; delete(2) = BAD_VERSION; accept(0) = 1001; versionAt(2) = 0;
                delete(0) = BAD_VERSION; delete(1) = 1003
                """);
        String children = "NOT_EMPTY if it has children";
        s.hold(children, """
                elect() = 2; openSession() = 0; /0; create(1, NONE) = 1001; /1; create(1, NONE) = 1002; /0/5;
                create(1, 0) = 1003; /0; delete(0) = NOT_EMPTY; delete(ANY_VERSION) = NOT_EMPTY; /1; delete(0) = 1004;
                closeSession(0) = 1005; /0; delete(0) = 1006
                """);
        s.hold(children, """
                elect() = 2; /0; create(1, NONE) = 1001; /0/0; create(1, NONE) = 1002; /0/0/0; create(1, NONE) = 1003;
                /0/0/0/0; create(1, NONE) = 1004; /0; delete(0) = NOT_EMPTY; /0/0; delete(0) = NOT_EMPTY; /0/0/0;
                delete(0) = NOT_EMPTY; /0/0/0/0; delete(0) = 1005; /0/0/0; delete(0) = 1006; /0; delete(0) = NOT_EMPTY;
                /0/0; delete(0) = 1007; /0; delete(0) = 1008
                """);
        // A child that is applied but deleted in the proposed tree is none, and the other way round.
        s.hold(children, """
                elect() = 2; /0; create(1, NONE) = 1001; /0/1; create(1, NONE) = 1002; accept(0) = 1001; accept(0) = 1002;
                delete(0) = 1003; /0; childCount(2) = 1; delete(0) = 1004
                """);
        s.hold(FULL, "elect() = 2;", Sentences.FULL_LOG, "delete(39) = CAPACITY_EXCEEDED;",
                "delete(ANY_VERSION) = CAPACITY_EXCEEDED");
        s.hold(FULL, "elect() = 2;", Sentences.LOG_OF_39, "delete(38) = 1040; create(1, NONE) = CAPACITY_EXCEEDED;",
                Sentences.accepts(0, 1, 1, 40), "nodeCount(2) = 0");
    }
}
