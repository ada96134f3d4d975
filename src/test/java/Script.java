import java.lang.reflect.Method;
import java.util.ArrayList;
import java.util.Arrays;
import java.util.List;

/**
 * Runs calls on new objects that are written as the document writes them, "elect() = 2; leader() = 2",
 * with names of constants where numbers may stand, and prints every call whose answer is not as due.
 */
final class Script {
    private int calls;
    private int wrong;

    /** Runs the calls, one after the other, on one new object. */
    void run(String title, String... parts) {
        CoordinationService service = new CoordinationService();
        for (String statement : String.join(";", parts).split(";")) {
            if (!statement.isBlank()) {
                runStatement(title, service, statement.strip());
            }
        }
    }

    /** Ends the program, with exit code 1 if an answer was wrong. */
    void finish() {
        System.out.println(calls + " calls, " + wrong + " answers not as due");
        if (wrong != 0 || calls == 0) {
            System.exit(1);
        }
    }

    private void runStatement(String title, CoordinationService service, String statement) {
        int equals = statement.lastIndexOf('=');
        String call = statement.substring(0, equals).strip();
        int due = number(statement.substring(equals + 1).strip());
        int got = answer(service, call);
        calls++;
        if (got != due) {
            wrong++;
            System.out.println(title + ": " + call + " answered " + got + ", due is " + due);
        }
    }

    static int answer(CoordinationService service, String call) {
        int open = call.indexOf('(');
        String name = call.substring(0, open);
        List<Object> arguments = new ArrayList<>();
        for (String argument : call.substring(open + 1, call.lastIndexOf(')')).split(",")) {
            if (!argument.isBlank()) {
                arguments.add(number(argument.strip()));
            }
        }
        Class<?>[] types = new Class<?>[arguments.size()];
        Arrays.fill(types, int.class);
        try {
            Method method = CoordinationService.class.getMethod(name, types);
            return (Integer) method.invoke(service, arguments.toArray());
        } catch (ReflectiveOperationException e) {
            throw new IllegalStateException(call, e);
        }
    }

    private static int number(String text) {
        if (!Character.isLetter(text.charAt(0))) {
            return Integer.parseInt(text);
        }
        try {
            return CoordinationService.class.getField(text).getInt(null);
        } catch (ReflectiveOperationException e) {
            throw new IllegalStateException(text, e);
        }
    }

    /** Clears a path of so many names and sets another one. */
    static String path(int lengthBefore, int... names) {
        StringBuilder text = new StringBuilder("clearPath() = " + lengthBefore + ";");
        for (int i = 0; i < names.length; i++) {
            text.append("appendName(").append(names[i]).append(") = ").append(i + 1).append(';');
        }
        return text.toString();
    }
}
