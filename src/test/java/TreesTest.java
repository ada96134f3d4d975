/** Promises 24 to 28: what the trees of the servers hold. */
public final class TreesTest {
    private static final Script SCRIPT = new Script();

    public static void main(String[] args) {
        promises24To26Answers();
        promises24To26Values();
        promise27ChildCount();
        promise28NodeCount();
        SCRIPT.finish();
    }

    private static void promises24To26Answers() {
        for (String name : new String[] {"dataAt", "versionAt", "ownerAt"}) {
            SCRIPT.run("promises 24 to 26: errors of " + name, """
                    @(-1) = INVALID_ARGUMENT; @(3) = INVALID_ARGUMENT; @(2147483647) = INVALID_ARGUMENT; @(0) = NOT_POSSIBLE;
                    @(2) = NOT_POSSIBLE; appendName(1) = 1; @(0) = NOT_FOUND; @(3) = INVALID_ARGUMENT; reset(4) = 3;
                    appendName(0) = 1; @(3) = NOT_FOUND; @(4) = INVALID_ARGUMENT
                    """.replace("@", name));
        }
    }

    private static void promises24To26Values() {
        SCRIPT.run("promises 24 to 26: each server has its own tree, up or down", """
                elect() = 2; openSession() = 0; openSession() = 1; appendName(5) = 1; create(7, 1) = 1001; setData(8, 0) = 1002;
                dataAt(2) = NOT_FOUND; accept(0) = 1001; dataAt(2) = 7; versionAt(2) = 0; ownerAt(2) = 1; dataAt(0) = NOT_FOUND;
                heartbeat(0) = 1; dataAt(0) = 7; versionAt(0) = 0; ownerAt(0) = 1; accept(1) = 1001; accept(1) = 1002; dataAt(2) = 8;
                versionAt(2) = 1; ownerAt(2) = 1; dataAt(0) = 7; crash(0) = 2; dataAt(0) = 7; versionAt(0) = 0; ownerAt(0) = 1;
                crash(2) = 1; dataAt(2) = 8; versionAt(2) = 1; ownerAt(2) = 1; dataAt(1) = NOT_FOUND; versionAt(1) = NOT_FOUND;
                ownerAt(1) = NOT_FOUND
                """);
        SCRIPT.run("promise 26: owners and none", "elect() = 2; openSession() = 0; openSession() = 1;",
                Script.path(0, 0), "create(1, NONE) = 1001;", Script.path(1, 1), "create(1, 0) = 1002;", Script.path(1, 2),
                "create(1, 1) = 1003; accept(0) = 1001; accept(0) = 1002; accept(0) = 1003; ownerAt(2) = 1;",
                Script.path(1, 1), "ownerAt(2) = 0;", Script.path(1, 0), "ownerAt(2) = NONE");
    }

    private static void promise27ChildCount() {
        SCRIPT.run("promise 27: errors", """
                childCount(-1) = INVALID_ARGUMENT; childCount(3) = INVALID_ARGUMENT; childCount(0) = 0; childCount(2) = 0;
                appendName(1) = 1; childCount(0) = NOT_FOUND; childCount(3) = INVALID_ARGUMENT
                """);
        SCRIPT.run("promise 27: children are the nodes one name longer", "elect() = 2;",
                Script.path(0, 0), "create(1, NONE) = 1001;", Script.path(1, 1), "create(1, NONE) = 1002;",
                Script.path(1, 0, 0), "create(1, NONE) = 1003;", Script.path(2, 0, 5), "create(1, NONE) = 1004;",
                Script.path(2, 0, 0, 2), "create(1, NONE) = 1005;", "clearPath() = 3; childCount(2) = 0;",
                "accept(0) = 1001; accept(0) = 1002; accept(0) = 1003; accept(0) = 1004; accept(0) = 1005;",
                "childCount(2) = 2; childCount(0) = 0; heartbeat(0) = 5; childCount(0) = 2;",
                Script.path(0, 0), "childCount(2) = 2;", Script.path(1, 1), "childCount(2) = 0;",
                Script.path(1, 0, 0), "childCount(2) = 1;", Script.path(2, 0, 0, 2), "childCount(2) = 0;",
                Script.path(3, 0, 0, 2, 0), "childCount(2) = NOT_FOUND;",
                Script.path(4, 0, 5), "delete(0) = 1006; accept(1) = 1001; accept(0) = 1006; childCount(2) = NOT_FOUND;",
                Script.path(2, 0), "childCount(2) = 1; childCount(0) = 2; crash(0) = 2; childCount(0) = 2");
    }

    private static void promise28NodeCount() {
        SCRIPT.run("promise 28", """
                nodeCount(-1) = INVALID_ARGUMENT; nodeCount(3) = INVALID_ARGUMENT; nodeCount(0) = 0; elect() = 2; appendName(0) = 1;
                create(1, NONE) = 1001; appendName(0) = 2; create(1, NONE) = 1002; nodeCount(2) = 0; accept(0) = 1001;
                nodeCount(2) = 1; accept(0) = 1002; nodeCount(2) = 2; nodeCount(0) = 0; heartbeat(0) = 2; nodeCount(0) = 2;
                setData(4, 0) = 1003; accept(0) = 1003; nodeCount(2) = 2; delete(1) = 1004; accept(0) = 1004; nodeCount(2) = 1;
                crash(2) = 2; nodeCount(2) = 1
                """);
    }
}
