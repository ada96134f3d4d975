/** The five examples of the document, as it writes them. */
public final class ExamplesTest {
    public static void main(String[] args) {
        Script script = new Script();
        script.run("example 1", """
                elect() = 2; appendName(0) = 1; create(5, -8) = 1001;
                committedCount() = 0; accept(0) = 1001; committedCount() = 1; dataAt(0) = -3; heartbeat(0) = 1;
                dataAt(0) = 5
                """);
        script.run("example 2", """
                elect() = 2; openSession() = 0; appendName(1) = 1; watch(2, 0) = 1; create(5, -8) = 1001;
                accept(1) = 1001; eventCount(0) = 1; eventAt(0, 0) = 10010
                """);
        script.run("example 3", """
                elect() = 2; appendName(0) = 1; create(1, -8) = 1001; crash(2) = 2;
                elect() = 1; lastIdentifier(2) = 1001; restart(2) = 3; synchronize(2) = 100; lastIdentifier(2) = 0
                """);
        script.run("example 4", """
                create(1, -8) = -2; elect() = 2; appendName(0) = 1; create(1, -8) = 1001;
                create(1, -8) = -4; setData(2, 1) = -5; delete(0) = 1002
                """);
        script.run("example 5", """
                elect() = 2; openSession() = 0; appendName(0) = 1; create(3, 0) = 1001;
                closeSession(0) = 1002; create(4, 0) = -2; accept(0) = 1001; accept(0) = 1002; nodeCount(2) = 0
                """);
        script.finish();
    }
}
