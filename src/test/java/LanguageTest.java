import java.io.IOException;
import java.nio.file.Files;
import java.nio.file.Path;
import java.util.ArrayList;
import java.util.List;
import java.util.regex.Matcher;
import java.util.regex.Pattern;

/**
 * The rules of LANGUAGE.md that can be seen in the words of the source. Where a rule needs more than
 * words (depths of calls, ends of loops), reading it is left to people.
 */
public final class LanguageTest {
    private static final Path SOURCE = Path.of("src/main/java/CoordinationService.java");
    private static final String[] FORBIDDEN = {
        "\\b(throw|throws|try|catch|finally|synchronized|assert|native|volatile|transient|package|var|yield)\\b",
        "->", "::", "@\\w+", "\\bstatic\\s*\\{", "\\b(equals|hashCode|toString)\\s*\\(", "\\w+Exact\\b",
        "\\b(Object|System\\.(?!arraycopy)\\w+|Thread|Random|Runtime|Class|Iterator|Map|HashMap|Set|Optional|Stream)\\b",
        "\\b(public|protected)\\s+(?:static\\s+)?(?:abstract\\s+)?(class|interface|enum|record)\\b"
    };
    private static final int LONGEST_METHOD = 60;

    private static boolean right = true;

    public static void main(String[] args) throws IOException {
        String code = withoutComments(Files.readString(SOURCE));
        for (String pattern : FORBIDDEN) {
            Matcher matcher = Pattern.compile(pattern).matcher(code);
            while (matcher.find()) {
                wrong("forbidden: " + matcher.group() + " in line " + lineOf(code, matcher.start()));
            }
        }
        lookAtImports(code);
        lookAtSigns(code);
        lookAtStaticFields(code);
        lookAtMethods(code);
        System.out.println(right ? "the language is as due" : "the language is not as due");
        if (!right) {
            System.exit(1);
        }
    }

    /** Blanks comments and the insides of texts, and keeps the lines. */
    private static String withoutComments(String source) {
        Matcher matcher = Pattern.compile("//[^\n]*|/\\*.*?\\*/|\"(?:\\\\.|[^\"\\\\])*\"", Pattern.DOTALL).matcher(source);
        return matcher.replaceAll(found -> found.group().replaceAll("[^\n]", " "));
    }

    private static void lookAtImports(String code) {
        for (String line : code.lines().toList()) {
            if (line.startsWith("import") && !line.matches("import java\\.util\\.(ArrayList|List|Arrays);")) {
                wrong("import: " + line);
            }
        }
    }

    private static void lookAtSigns(String code) {
        if (!code.chars().allMatch(sign -> sign < 128)) {
            wrong("a sign beyond 127");
        }
    }

    private static void lookAtStaticFields(String code) {
        Matcher matcher = Pattern.compile("\\bstatic\\s+(?!final\\b)[\\w\\[\\]]+\\s+\\w+\\s*[=;]").matcher(code);
        while (matcher.find()) {
            wrong("a static field that is not final in line " + lineOf(code, matcher.start()));
        }
    }

    private static void lookAtMethods(String code) {
        List<String> lines = new ArrayList<>(code.lines().toList());
        for (int i = 0; i < lines.size(); i++) {
            String line = lines.get(i);
            if (!line.matches("\\s+[\\w\\s<>\\[\\],]+\\([^()]*\\) \\{") || line.matches("\\s+(if|for|while|switch)\\b.*")) {
                continue;
            }
            if (line.chars().filter(sign -> sign == ',').count() >= 7) {
                wrong("more than seven parameters in line " + (i + 1));
            }
            String indent = line.substring(0, line.length() - line.stripLeading().length());
            int end = i;
            while (end < lines.size() && !lines.get(end).equals(indent + "}")) {
                end++;
            }
            if (end - i > LONGEST_METHOD) {
                wrong("a long method in line " + (i + 1));
            }
        }
    }

    private static int lineOf(String code, int place) {
        return (int) code.substring(0, place).chars().filter(sign -> sign == '\n').count() + 1;
    }

    private static void wrong(String what) {
        right = false;
        System.out.println(what);
    }
}
