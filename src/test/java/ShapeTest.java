import com.sun.source.tree.ClassTree;
import com.sun.source.tree.CompilationUnitTree;
import com.sun.source.tree.MethodInvocationTree;
import com.sun.source.tree.MethodTree;
import com.sun.source.tree.NewClassTree;
import com.sun.source.tree.Tree;
import com.sun.source.tree.VariableTree;
import com.sun.source.util.JavacTask;
import com.sun.source.util.TreePathScanner;
import com.sun.source.util.Trees;
import java.io.IOException;
import java.nio.file.Path;
import java.util.ArrayList;
import java.util.List;
import java.util.Map;
import java.util.Set;
import java.util.TreeMap;
import java.util.TreeSet;
import javax.lang.model.element.Element;
import javax.lang.model.element.ExecutableElement;
import javax.lang.model.element.Modifier;
import javax.tools.JavaCompiler;
import javax.tools.StandardJavaFileManager;
import javax.tools.ToolProvider;

/**
 * The rules of LANGUAGE.md that the compiler's tree of the source shows: which methods call which, how deep
 * calls go, what of the library is used, and how many classes, fields and parameters there are.
 */
public final class ShapeTest extends TreePathScanner<Void, Void> {
    private static final Path SOURCE = Path.of("src/main/java/CoordinationService.java");
    private static final int DEEPEST_CALL = 8;
    private static final int MOST_CLASSES = 12;
    private static final int MOST_FIELDS = 20;
    private static final int MOST_PARAMETERS = 7;
    private static final Set<String> LIBRARY = Set.of(
            "java.util.ArrayList.<init>", "java.util.ArrayList.add", "java.util.ArrayList.get",
            "java.util.ArrayList.set", "java.util.ArrayList.remove", "java.util.ArrayList.size",
            "java.util.ArrayList.isEmpty", "java.util.ArrayList.clear", "java.lang.Math.min", "java.lang.Math.max");

    private final Trees trees;
    private final Map<String, Set<String>> callees = new TreeMap<>();
    private String caller = "";
    private int classes;
    private int wrong;

    private ShapeTest(Trees trees) {
        this.trees = trees;
    }

    public static void main(String[] args) throws IOException {
        JavaCompiler compiler = ToolProvider.getSystemJavaCompiler();
        if (compiler == null) {
            System.out.println("this java has no compiler inside: the shape is not looked at");
            return;
        }
        try (StandardJavaFileManager files = compiler.getStandardFileManager(null, null, null)) {
            JavacTask task = (JavacTask) compiler.getTask(null, files, null, null, null, files.getJavaFileObjects(SOURCE));
            List<CompilationUnitTree> units = new ArrayList<>();
            task.parse().forEach(units::add);
            task.analyze();
            ShapeTest test = new ShapeTest(Trees.instance(task));
            units.forEach(unit -> test.scan(unit, null));
            test.finish();
        }
    }

    private void finish() {
        if (classes > MOST_CLASSES) {
            fail(classes + " classes");
        }
        int deepest = 0;
        for (String method : callees.keySet()) {
            deepest = Math.max(deepest, depthOf(method, new ArrayList<>()));
        }
        if (deepest > DEEPEST_CALL) {
            fail("calls go " + deepest + " deep");
        }
        System.out.println(callees.size() + " methods, calls go " + deepest + " deep, " + wrong + " not as due");
        if (wrong != 0 || callees.isEmpty()) {
            System.exit(1);
        }
    }

    /** The number of own methods that stand open at once, this one included. */
    private int depthOf(String method, List<String> open) {
        if (open.contains(method)) {
            fail("a method that calls itself: " + open + " " + method);
            return 0;
        }
        open.add(method);
        int below = 0;
        for (String callee : callees.get(method)) {
            if (callees.containsKey(callee)) {
                below = Math.max(below, depthOf(callee, open));
            } else if (!LIBRARY.contains(callee)) {
                fail(method + " calls " + callee);
            }
        }
        open.remove(open.size() - 1);
        return below + 1;
    }

    private void fail(String what) {
        wrong++;
        System.out.println(what);
    }

    @Override
    public Void visitClass(ClassTree tree, Void nothing) {
        classes++;
        int fields = 0;
        for (Tree member : tree.getMembers()) {
            if (member instanceof VariableTree field && !field.getModifiers().getFlags().contains(Modifier.STATIC)) {
                fields++;
            }
        }
        if (fields > MOST_FIELDS) {
            fail(tree.getSimpleName() + " has " + fields + " fields");
        }
        // The initialisers of fields run in the constructor.
        caller = nameOf(trees.getElement(getCurrentPath())) + ".<init>";
        return super.visitClass(tree, nothing);
    }

    @Override
    public Void visitMethod(MethodTree tree, Void nothing) {
        if (tree.getParameters().size() > MOST_PARAMETERS) {
            fail(tree.getName() + " has " + tree.getParameters().size() + " parameters");
        }
        String before = caller;
        caller = nameOf(trees.getElement(getCurrentPath()));
        callees.computeIfAbsent(withoutParameters(caller), key -> new TreeSet<>());
        super.visitMethod(tree, nothing);
        caller = before;
        return null;
    }

    @Override
    public Void visitMethodInvocation(MethodInvocationTree tree, Void nothing) {
        note(trees.getElement(getCurrentPath()));
        return super.visitMethodInvocation(tree, nothing);
    }

    @Override
    public Void visitNewClass(NewClassTree tree, Void nothing) {
        note(trees.getElement(getCurrentPath()));
        return super.visitNewClass(tree, nothing);
    }

    private void note(Element called) {
        String name = nameOf(called);
        if (!name.equals("java.lang.Object.<init>()")) {
            callees.computeIfAbsent(withoutParameters(caller), key -> new TreeSet<>()).add(withoutParameters(name));
        }
        // Removing an element, and not what stands at an index, would need equals.
        if (name.endsWith(".remove(java.lang.Object)")) {
            fail(caller + " calls " + name);
        }
    }

    /** Methods of one class that share a name are taken as one; that can only make depths greater. */
    private static String withoutParameters(String method) {
        return method.replaceFirst("\\(.*", "");
    }

    private static String nameOf(Element element) {
        if (element == null) {
            throw new IllegalStateException("the source does not compile");
        }
        if (!(element instanceof ExecutableElement)) {
            return element.toString();
        }
        String parameters = element.toString().replaceFirst("^[^(]*", "");
        return element.getEnclosingElement() + "." + element.getSimpleName() + parameters;
    }
}
