/** Promises 14 to 18: the path buffer, and proposals that create, set and delete nodes. */
public final class ProposalsTest {
    private static final Script SCRIPT = new Script();

    public static void main(String[] args) {
        promise14AppendName();
        promise15ClearPath();
        promise16Create();
        promise16CreateAtItsLimits();
        promise17SetData();
        promise18Delete();
        errorsChangeNothing();
        SCRIPT.finish();
    }

    private static void promise14AppendName() {
        SCRIPT.run("promise 14", """
                appendName(-1) = INVALID_ARGUMENT; appendName(6) = INVALID_ARGUMENT; appendName(2147483647) = INVALID_ARGUMENT;
                appendName(-2147483648) = INVALID_ARGUMENT; appendName(0) = 1; appendName(5) = 2; appendName(3) = 3;
                appendName(0) = 4; appendName(0) = CAPACITY_EXCEEDED; appendName(6) = INVALID_ARGUMENT; clearPath() = 4
                """);
        SCRIPT.run("promise 14: names are told apart, by place too", "elect() = 2;",
                Script.path(0, 0), "create(1, NONE) = 1001;", Script.path(1, 1), "create(2, NONE) = 1002;",
                Script.path(1, 0, 1), "create(3, NONE) = 1003;", Script.path(2, 1, 0), "create(4, NONE) = 1004;",
                Script.path(2, 0, 0), "create(5, NONE) = 1005;", Script.path(2, 0, 1, 5), "create(6, NONE) = 1006;",
                Script.path(3, 0, 1, 5, 5), "create(7, NONE) = 1007;", Script.path(4, 5), "create(8, NONE) = 1008;",
                "accept(0) = 1001; accept(0) = 1002; accept(0) = 1003; accept(0) = 1004; accept(0) = 1005; accept(0) = 1006;",
                "accept(0) = 1007; accept(0) = 1008; dataAt(2) = 8;", Script.path(1, 0), "dataAt(2) = 1;",
                Script.path(1, 1), "dataAt(2) = 2;", Script.path(1, 0, 1), "dataAt(2) = 3;",
                Script.path(2, 1, 0), "dataAt(2) = 4;", Script.path(2, 0, 0), "dataAt(2) = 5;",
                Script.path(2, 0, 1, 5), "dataAt(2) = 6;", Script.path(3, 0, 1, 5, 5), "dataAt(2) = 7;",
                Script.path(4, 1, 1), "dataAt(2) = NOT_FOUND;", Script.path(2, 0, 0, 0), "dataAt(2) = NOT_FOUND");
    }

    private static void promise15ClearPath() {
        SCRIPT.run("promise 15", """
                clearPath() = 0; appendName(1) = 1; clearPath() = 1; clearPath() = 0; dataAt(0) = NOT_POSSIBLE;
                appendName(1) = 1; appendName(2) = 2; appendName(3) = 3; clearPath() = 3; appendName(1) = 1; clearPath() = 1
                """);
    }

    private static void promise16Create() {
        SCRIPT.run("promise 16: wrong arguments, before all else", """
                create(-1, NONE) = INVALID_ARGUMENT; create(1000, NONE) = INVALID_ARGUMENT; create(1, 0) = INVALID_ARGUMENT;
                create(1, -1) = INVALID_ARGUMENT; create(1, ANY_VERSION) = INVALID_ARGUMENT; create(1, 6) = INVALID_ARGUMENT;
                create(-2147483648, NONE) = INVALID_ARGUMENT; create(1, 2147483647) = INVALID_ARGUMENT;
                create(1, NONE) = NOT_POSSIBLE; openSession() = 0; create(1, 0) = NOT_POSSIBLE; create(1, 1) = INVALID_ARGUMENT;
                elect() = 2; create(1000, NONE) = INVALID_ARGUMENT; create(1, 1) = INVALID_ARGUMENT
                """);
        SCRIPT.run("promise 16: the root exists", "elect() = 2; create(0, NONE) = ALREADY_EXISTS; lastIdentifier(2) = 0");
        SCRIPT.run("promise 16: the edges of data", "elect() = 2; appendName(0) = 1; create(0, NONE) = 1001;",
                Script.path(1, 1), "create(999, NONE) = 1002; accept(1) = 1001; accept(1) = 1002; dataAt(2) = 999;",
                "versionAt(2) = 0; ownerAt(2) = NONE;", Script.path(1, 0), "dataAt(2) = 0");
        SCRIPT.run("promise 16: the parent", "elect() = 2; openSession() = 0;",
                Script.path(0, 0, 1), "create(1, NONE) = NOT_FOUND;", Script.path(2, 0), "create(1, NONE) = 1001;",
                Script.path(1, 0, 1), "create(1, 0) = 1002;", Script.path(2, 0, 1, 2), "create(1, NONE) = NOT_FOUND;",
                "create(1, 0) = NOT_FOUND;", Script.path(3, 0, 1, 2, 3), "create(1, NONE) = NOT_FOUND;",
                Script.path(4, 0, 2), "create(1, NONE) = 1003;", Script.path(2, 0, 2, 0), "create(1, NONE) = 1004;",
                Script.path(3, 0, 2, 0, 0), "create(1, 0) = 1005; create(1, NONE) = ALREADY_EXISTS");
        SCRIPT.run("promise 16: the owner is closed, also when the node exists", """
                elect() = 2; openSession() = 0; openSession() = 1; appendName(0) = 1; create(1, 0) = 1001; closeSession(0) = 1002;
                create(1, 0) = NOT_POSSIBLE; create(1, 1) = 1003; create(1, 0) = NOT_POSSIBLE; create(1, 1) = ALREADY_EXISTS;
                create(1, NONE) = ALREADY_EXISTS
                """);
        SCRIPT.run("promise 16: the proposed tree counts, applied or not", """
                elect() = 2; appendName(0) = 1; create(1, NONE) = 1001; nodeCount(2) = 0; create(1, NONE) = ALREADY_EXISTS;
                delete(0) = 1002; create(2, NONE) = 1003; accept(0) = 1001; accept(0) = 1002; accept(0) = 1003;
                dataAt(2) = 2; versionAt(2) = 0
                """);
        SCRIPT.run("promise 16: a node made again begins at version 0 and with its own owner", """
                elect() = 2; openSession() = 0; appendName(0) = 1; create(1, 0) = 1001; setData(2, 0) = 1002; delete(1) = 1003;
                create(3, NONE) = 1004; setData(4, 1) = BAD_VERSION; setData(4, 0) = 1005; accept(0) = 1001; ownerAt(2) = 0;
                accept(0) = 1002; accept(0) = 1003; accept(0) = 1004; ownerAt(2) = NONE; versionAt(2) = 0
                """);
    }

    private static String twelveNodes() {
        StringBuilder text = new StringBuilder("elect() = 2; openSession() = 0;");
        for (int i = 0; i < 6; i++) {
            text.append(Script.path(i == 0 ? 0 : 1, i)).append("create(1, NONE) = ").append(1001 + i).append(';');
        }
        for (int i = 0; i < 6; i++) {
            text.append(Script.path(i == 0 ? 1 : 2, 5, i)).append("create(1, 0) = ").append(1007 + i).append(';');
        }
        return text.toString();
    }

    private static void promise16CreateAtItsLimits() {
        SCRIPT.run("promise 16: 12 nodes", twelveNodes(), "create(1, NONE) = ALREADY_EXISTS;",
                Script.path(2, 5, 0, 0), "create(1, NONE) = NOT_FOUND;",
                Script.path(3, 0, 0), "create(1, NONE) = CAPACITY_EXCEEDED; create(1, 0) = CAPACITY_EXCEEDED;",
                "closeSession(0) = 1013; create(1, 0) = NOT_POSSIBLE; create(1, NONE) = 1014;",
                "accept(0) = 1001;", Script.path(2, 0), "delete(ANY_VERSION) = NOT_EMPTY");
        SCRIPT.run("promise 16: one of 12 nodes makes room by its deletion", twelveNodes(),
                Script.path(2, 0), "delete(0) = 1013; create(4, NONE) = 1014;", Script.path(1, 0, 0),
                "create(1, NONE) = CAPACITY_EXCEEDED");
        SCRIPT.run("promise 16: 40 transactions", "elect() = 2; appendName(0) = 1; create(1, NONE) = 1001;",
                thirtyNineSets(), Script.path(1, 1), "create(1, NONE) = CAPACITY_EXCEEDED;",
                Script.path(1, 1, 1), "create(1, NONE) = NOT_FOUND;", "crash(2) = 2; elect() = 1; lastIdentifier(1) = 0;",
                Script.path(2, 1), "create(1, NONE) = 2001");
    }

    /** Sets the node in the path buffer until the leader's log, which has one transaction, has 40. */
    private static String thirtyNineSets() {
        StringBuilder text = new StringBuilder();
        for (int i = 0; i < 39; i++) {
            text.append("setData(").append(i).append(", ").append(i).append(") = ").append(1002 + i).append(';');
        }
        return text.toString();
    }

    private static void promise17SetData() {
        SCRIPT.run("promise 17: wrong arguments, before all else", """
                setData(-1, 0) = INVALID_ARGUMENT; setData(1000, 0) = INVALID_ARGUMENT; setData(1, -1) = INVALID_ARGUMENT;
                setData(1, NONE) = INVALID_ARGUMENT; setData(1, -10) = INVALID_ARGUMENT; setData(1, -2147483648) = INVALID_ARGUMENT;
                setData(1, 0) = NOT_POSSIBLE; setData(1, ANY_VERSION) = NOT_POSSIBLE; setData(1, 2147483647) = NOT_POSSIBLE
                """);
        SCRIPT.run("promise 17: the state", """
                elect() = 2; setData(1, ANY_VERSION) = NOT_POSSIBLE; setData(1, 0) = NOT_POSSIBLE; appendName(1) = 1;
                setData(1, 0) = NOT_FOUND; create(5, NONE) = 1001; setData(1, 1) = BAD_VERSION;
                setData(1, 2147483647) = BAD_VERSION; setData(0, 0) = 1002; setData(1, 0) = BAD_VERSION; setData(999, 1) = 1003;
                setData(7, ANY_VERSION) = 1004; accept(0) = 1001; dataAt(2) = 5; versionAt(2) = 0; accept(0) = 1002; dataAt(2) = 0;
                versionAt(2) = 1; accept(0) = 1003; dataAt(2) = 999; versionAt(2) = 2; accept(0) = 1004; dataAt(2) = 7;
                versionAt(2) = 3; crash(2) = 2; setData(1, 3) = NOT_POSSIBLE
                """);
        SCRIPT.run("promise 17: 40 transactions", "elect() = 2; appendName(0) = 1; create(1, NONE) = 1001;", thirtyNineSets(),
                "setData(1, 39) = CAPACITY_EXCEEDED; setData(1, 38) = BAD_VERSION; setData(1, ANY_VERSION) = CAPACITY_EXCEEDED;",
                "setData(1000, 39) = INVALID_ARGUMENT; appendName(0) = 2; setData(1, 0) = NOT_FOUND; lastIdentifier(2) = 1040");
        SCRIPT.run("promise 17: the owner stays", """
                elect() = 2; openSession() = 0; appendName(0) = 1; create(1, 0) = 1001; setData(2, 0) = 1002; accept(0) = 1001;
                accept(0) = 1002; ownerAt(2) = 0; dataAt(2) = 2
                """);
    }

    private static void promise18Delete() {
        SCRIPT.run("promise 18: wrong arguments, before all else", """
                delete(-1) = INVALID_ARGUMENT; delete(NONE) = INVALID_ARGUMENT; delete(-10) = INVALID_ARGUMENT;
                delete(-2147483648) = INVALID_ARGUMENT; delete(0) = NOT_POSSIBLE; delete(ANY_VERSION) = NOT_POSSIBLE;
                delete(2147483647) = NOT_POSSIBLE
                """);
        SCRIPT.run("promise 18: the state", "elect() = 2; delete(0) = NOT_POSSIBLE; delete(ANY_VERSION) = NOT_POSSIBLE;",
                "appendName(1) = 1; delete(0) = NOT_FOUND; create(1, NONE) = 1001; appendName(2) = 2; create(2, NONE) = 1002;",
                Script.path(2, 1), "delete(1) = BAD_VERSION; delete(0) = NOT_EMPTY; delete(ANY_VERSION) = NOT_EMPTY;",
                Script.path(1, 1, 2), "setData(3, 0) = 1003; delete(0) = BAD_VERSION; delete(1) = 1004; delete(1) = NOT_FOUND;",
                Script.path(2, 1), "delete(ANY_VERSION) = 1005; delete(ANY_VERSION) = NOT_FOUND;",
                "accept(0) = 1001; accept(0) = 1002; nodeCount(2) = 2; accept(0) = 1003; accept(0) = 1004; nodeCount(2) = 1;",
                "accept(0) = 1005; nodeCount(2) = 0; dataAt(2) = NOT_FOUND");
        SCRIPT.run("promise 18: 40 transactions", "elect() = 2; appendName(0) = 1; create(1, NONE) = 1001;", thirtyNineSets(),
                "delete(39) = CAPACITY_EXCEEDED; delete(38) = BAD_VERSION; delete(ANY_VERSION) = CAPACITY_EXCEEDED;",
                Script.path(1, 1), "delete(0) = NOT_FOUND");
        SCRIPT.run("promise 18: grandchildren and namesakes are no children", "elect() = 2;",
                Script.path(0, 1), "create(1, NONE) = 1001;", Script.path(1, 2), "create(1, NONE) = 1002;",
                Script.path(1, 2, 1), "create(1, NONE) = 1003;", Script.path(2, 1), "delete(0) = 1004;",
                Script.path(1, 2), "delete(0) = NOT_EMPTY");
    }

    private static void errorsChangeNothing() {
        SCRIPT.run("errors leave counter, log and tree alone", """
                elect() = 2; appendName(0) = 1; setData(1, 0) = NOT_FOUND; delete(0) = NOT_FOUND; create(1, 0) = INVALID_ARGUMENT;
                create(1, NONE) = 1001; create(2, NONE) = ALREADY_EXISTS; setData(2, 5) = BAD_VERSION; delete(5) = BAD_VERSION;
                closeSession(0) = INVALID_ARGUMENT; setData(3, 0) = 1002; accept(0) = 1001; dataAt(2) = 1; accept(0) = 1002;
                accept(0) = NOT_POSSIBLE; dataAt(2) = 3; appliedCount(2) = 2
                """);
    }
}
