import java.io.IOException;
import java.lang.reflect.Constructor;
import java.lang.reflect.Field;
import java.lang.reflect.Method;
import java.lang.reflect.Modifier;
import java.nio.file.Files;
import java.nio.file.Path;
import java.util.Arrays;
import java.util.TreeSet;

/** The public face of the document: its constants, its constructor and its methods, and nothing else. */
public final class FaceTest {
    private static final Path DOCUMENT = Path.of("../shared/DOC.md");
    private static final Path SOURCE = Path.of("src/main/java/CoordinationService.java");
    private static final String[] METHODS = {
        "reset 1", "crash 1", "restart 1", "elect 0", "synchronize 1", "accept 1", "heartbeat 1", "leader 0",
        "lastIdentifier 1", "appliedCount 1", "committedCount 0", "acceptedEpoch 1", "appendName 1", "clearPath 0",
        "create 2", "setData 2", "delete 1", "openSession 0", "closeSession 1", "watch 2", "eventCount 1", "eventAt 2",
        "dataAt 1", "versionAt 1", "ownerAt 1", "childCount 1", "nodeCount 1", "commonLog 2"
    };
    private static final String[] CONSTANTS = {
        "INVALID_ARGUMENT -1", "NOT_POSSIBLE -2", "NOT_FOUND -3", "ALREADY_EXISTS -4", "BAD_VERSION -5", "NOT_EMPTY -6",
        "CAPACITY_EXCEEDED -7", "NONE -8", "ANY_VERSION -9", "CREATED 0", "CHANGED 1", "DELETED 2"
    };

    private static boolean right = true;

    public static void main(String[] args) throws ReflectiveOperationException, IOException {
        Class<?> face = CoordinationService.class;
        due("the class", Modifier.toString(face.getModifiers()), "public final");
        due("the methods", methodsOf(face), new TreeSet<>(Arrays.asList(METHODS)));
        due("the constants", constantsOf(face), new TreeSet<>(Arrays.asList(CONSTANTS)));
        due("the constructors", face.getDeclaredConstructors().length, 1);
        for (Constructor<?> constructor : face.getDeclaredConstructors()) {
            due("the constructor", constructor.toString(), "public CoordinationService()");
        }
        for (Class<?> inside : face.getDeclaredClasses()) {
            due(inside.getName() + " is static", Modifier.isStatic(inside.getModifiers()), true);
            dueNoFaceName(inside);
        }
        if (Files.exists(DOCUMENT)) {
            dueAsWritten(Files.readString(DOCUMENT), Files.readString(SOURCE));
        }
        System.out.println(right ? "the face is as due" : "the face is not as due");
        if (!right) {
            System.exit(1);
        }
    }

    /** Each row of the document's face stands in the source, the names of parameters too. */
    private static void dueAsWritten(String document, String source) {
        int begin = document.indexOf("public final class CoordinationService {");
        int end = document.indexOf("```", begin);
        due("the document's face", begin >= 0 && end > begin, true);
        if (begin < 0 || end < begin) {
            return;
        }
        int rows = 0;
        for (String row : document.substring(begin, end).lines().toList()) {
            if (row.endsWith(";")) {
                rows++;
                due(row, source.contains("\n" + row.replaceFirst("\\);$", ") {") + "\n"), true);
            }
        }
        // NONE and ANY_VERSION share a row, and so do the three kinds of events; one row is the constructor's.
        due("the rows of the document's face", rows, METHODS.length + CONSTANTS.length - 3 + 1);
    }

    private static TreeSet<String> methodsOf(Class<?> face) {
        TreeSet<String> found = new TreeSet<>();
        for (Method method : face.getDeclaredMethods()) {
            if (Modifier.isPrivate(method.getModifiers()) || method.isSynthetic()) {
                due("a private method's name is no public one: " + method.getName(), isFaceName(method.getName()), false);
                continue;
            }
            found.add(method.getName() + " " + method.getParameterCount());
            due(method.getName(), Modifier.toString(method.getModifiers()), "public");
            due(method.getName() + "'s answer", method.getReturnType(), int.class);
            for (Class<?> type : method.getParameterTypes()) {
                due(method.getName() + "'s parameters", type, int.class);
            }
        }
        return found;
    }

    private static TreeSet<String> constantsOf(Class<?> face) throws ReflectiveOperationException {
        TreeSet<String> found = new TreeSet<>();
        for (Field field : face.getDeclaredFields()) {
            if (Modifier.isPrivate(field.getModifiers())) {
                continue;
            }
            due(field.getName(), Modifier.toString(field.getModifiers()), "public static final");
            due(field.getName() + "'s type", field.getType(), int.class);
            found.add(field.getName() + " " + field.getInt(null));
        }
        return found;
    }

    private static void dueNoFaceName(Class<?> inside) {
        for (Method method : inside.getDeclaredMethods()) {
            due(inside.getName() + "." + method.getName() + " bears a public name", isFaceName(method.getName()), false);
        }
    }

    private static boolean isFaceName(String name) {
        return Arrays.stream(METHODS).anyMatch(row -> row.startsWith(name + " "));
    }

    private static void due(String what, Object got, Object want) {
        if (!want.equals(got)) {
            right = false;
            System.out.println(what + ": " + got + ", due is " + want);
        }
    }
}
