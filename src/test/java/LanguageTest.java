import com.sun.source.tree.BinaryTree;
import com.sun.source.tree.BlockTree;
import com.sun.source.tree.ClassTree;
import com.sun.source.tree.CompilationUnitTree;
import com.sun.source.tree.LineMap;
import com.sun.source.tree.MethodInvocationTree;
import com.sun.source.tree.MethodTree;
import com.sun.source.tree.NewArrayTree;
import com.sun.source.tree.NewClassTree;
import com.sun.source.tree.Tree;
import com.sun.source.tree.Tree.Kind;
import com.sun.source.tree.VariableTree;
import com.sun.source.util.JavacTask;
import com.sun.source.util.TreePath;
import com.sun.source.util.TreePathScanner;
import com.sun.source.util.Trees;
import java.io.IOException;
import java.nio.file.Path;
import java.util.ArrayList;
import java.util.EnumSet;
import java.util.HashSet;
import java.util.LinkedHashMap;
import java.util.LinkedHashSet;
import java.util.List;
import java.util.Map;
import java.util.Set;
import javax.lang.model.element.Element;
import javax.lang.model.element.Modifier;
import javax.tools.StandardJavaFileManager;
import javax.tools.ToolProvider;

/**
 * The rules of LANGUAGE.md that the program's text alone can show, looked for in javac's own tree of it. Stricter than
 * the rules where the program is: no method makes an object or a row, and only this much of the library is called.
 * Run from the project's folder, as .ci/run does.
 */
public final class LanguageTest extends TreePathScanner<Void, Void> {
    private static final Path PROGRAM = Path.of("src/main/java/AppealsDown.java");
    private static final Set<String> LIBRARY = Set.of("Math.max", "Math.min", "Math.abs", "Integer.bitCount",
            "System.arraycopy", "String.length", "String.charAt", "String.isEmpty", "Object.<init>");
    private static final Set<String> CONSTANTS = Set.of("int", "long", "boolean", "char", "java.lang.String");
    private static final Set<Kind> RULED_OUT = EnumSet.of(Kind.THROW, Kind.TRY, Kind.CATCH, Kind.SYNCHRONIZED,
            Kind.ASSERT, Kind.LAMBDA_EXPRESSION, Kind.MEMBER_REFERENCE, Kind.IMPORT, Kind.PACKAGE, Kind.TYPE_CAST,
            Kind.INSTANCE_OF, Kind.SWITCH_EXPRESSION, Kind.FLOAT_LITERAL, Kind.DOUBLE_LITERAL, Kind.ANNOTATION);
    private static final int MOST_LINES = 60;
    private static final int MOST_PARAMETERS = 7;
    private static final int MOST_DEEP = 8;
    private static final int MOST_CLASSES = 12;
    private static final int MOST_FIELDS = 20;

    private final Check check = new Check();
    private final Trees trees;
    private final CompilationUnitTree unit;
    private final Map<Element, Set<Element>> calls = new LinkedHashMap<>();
    private int classes = 0;

    private LanguageTest(Trees trees, CompilationUnitTree unit) {
        this.trees = trees;
        this.unit = unit;
    }

    private void rule(int number, String what, boolean holds) {
        check.due("rule " + number + ": " + what, holds ? 1 : 0, 1);
    }

    private String place(Tree tree) {
        return "line " + unit.getLineMap().getLineNumber(trees.getSourcePositions().getStartPosition(unit, tree));
    }

    private Element element(Tree tree) {
        return trees.getElement(new TreePath(getCurrentPath(), tree));
    }

    /** The method that a place stands in; null in a field's own line, which is run once an object. */
    private MethodTree method() {
        for (TreePath path = getCurrentPath(); path != null; path = path.getParentPath()) {
            if (path.getLeaf() instanceof MethodTree method) {
                return method;
            }
        }
        return null;
    }

    @Override
    public Void scan(Tree tree, Void none) {
        if (tree != null) {
            rule(6, place(tree) + " " + tree.getKind(), !RULED_OUT.contains(tree.getKind()));
        }
        return super.scan(tree, none);
    }

    @Override
    public Void visitClass(ClassTree tree, Void none) {
        classes++;
        Set<Modifier> modifiers = tree.getModifiers().getFlags();
        boolean inside = getCurrentPath().getParentPath().getLeaf() != unit;
        rule(2, place(tree) + " a class of its own", !inside || modifiers.contains(Modifier.STATIC));
        int fields = 0;
        for (Tree member : tree.getMembers()) {
            rule(5, place(member) + " no initialiser block", !(member instanceof BlockTree));
            if (member instanceof VariableTree field && !field.getModifiers().getFlags().contains(Modifier.STATIC)) {
                fields++;
            }
        }
        rule(11, tree.getSimpleName() + " has " + fields + " fields", fields <= MOST_FIELDS);
        return super.visitClass(tree, none);
    }

    @Override
    public Void visitVariable(VariableTree tree, Void none) {
        Element variable = trees.getElement(getCurrentPath());
        String type = variable.asType().toString();
        rule(3, place(tree) + " " + type, !type.contains("double") && !type.contains("float"));
        if (variable.getModifiers().contains(Modifier.STATIC)) {
            rule(5, place(tree) + " final", variable.getModifiers().contains(Modifier.FINAL));
            rule(5, place(tree) + " " + type, CONSTANTS.contains(type));
        }
        return super.visitVariable(tree, none);
    }

    @Override
    public Void visitMethod(MethodTree tree, Void none) {
        LineMap lines = unit.getLineMap();
        long from = lines.getLineNumber(trees.getSourcePositions().getStartPosition(unit, tree));
        long to = lines.getLineNumber(trees.getSourcePositions().getEndPosition(unit, tree));
        rule(11, tree.getName() + " has " + (to - from + 1) + " lines", to - from < MOST_LINES);
        rule(11, tree.getName() + " has few parameters", tree.getParameters().size() <= MOST_PARAMETERS);
        calls.putIfAbsent(trees.getElement(getCurrentPath()), new LinkedHashSet<>());
        return super.visitMethod(tree, none);
    }

    @Override
    public Void visitMethodInvocation(MethodInvocationTree tree, Void none) {
        Element called = element(tree.getMethodSelect());
        String name = called.getEnclosingElement().getSimpleName() + "." + called.getSimpleName();
        boolean own = trees.getPath(called) != null;
        rule(4, place(tree) + " " + name, own || LIBRARY.contains(name));
        MethodTree caller = method();
        if (caller != null) {
            Element from = trees.getElement(trees.getPath(unit, caller));
            calls.computeIfAbsent(from, m -> new LinkedHashSet<>()).add(called);
        }
        return super.visitMethodInvocation(tree, none);
    }

    @Override
    public Void visitNewClass(NewClassTree tree, Void none) {
        rule(12, place(tree) + " no object made in a call", method() == null);
        rule(2, place(tree) + " no class without a name", tree.getClassBody() == null);
        return super.visitNewClass(tree, none);
    }

    @Override
    public Void visitNewArray(NewArrayTree tree, Void none) {
        rule(12, place(tree) + " no row made in a call", method() == null);
        return super.visitNewArray(tree, none);
    }

    @Override
    public Void visitBinary(BinaryTree tree, Void none) {
        String type = trees.getTypeMirror(getCurrentPath()).toString();
        rule(10, place(tree) + " " + type, type.equals("int") || type.equals("long") || type.equals("boolean"));
        return super.visitBinary(tree, none);
    }

    /** How many calls stand one in the other from here on, a call of what is open already not counted. */
    private int deep(Element method, Set<Element> open) {
        int deepest = 0;
        if (open.add(method)) {
            for (Element next : calls.getOrDefault(method, Set.of())) {
                deepest = Math.max(deepest, open.contains(next) ? 0 : deep(next, open));
            }
            open.remove(method);
        }
        return 1 + deepest;
    }

    /** Those that are in a circle of calls: whatever is called from a method and calls it again. */
    private boolean callsItself(Element method) {
        Set<Element> seen = new HashSet<>();
        List<Element> rest = new ArrayList<>(calls.getOrDefault(method, Set.of()));
        while (!rest.isEmpty()) {
            Element next = rest.remove(rest.size() - 1);
            if (next == method) {
                return true;
            }
            if (seen.add(next)) {
                rest.addAll(calls.getOrDefault(next, Set.of()));
            }
        }
        return false;
    }

    private void lookAtCalls() {
        for (Element method : calls.keySet()) {
            int deep = deep(method, new HashSet<>());
            rule(11, method + " goes " + deep + " deep", deep <= MOST_DEEP);
            boolean carriesDepth = method.getSimpleName().contentEquals("playOn");
            rule(8, method + " calls itself", callsItself(method) == carriesDepth);
        }
        rule(11, classes + " classes", classes <= MOST_CLASSES);
    }

    public static void main(String[] args) throws IOException {
        var javac = ToolProvider.getSystemJavaCompiler();
        try (StandardJavaFileManager files = javac.getStandardFileManager(null, null, null)) {
            JavacTask task = (JavacTask) javac.getTask(null, files, null, List.of("-proc:none"), null,
                    files.getJavaFileObjects(PROGRAM));
            CompilationUnitTree unit = task.parse().iterator().next();
            task.analyze();
            LanguageTest test = new LanguageTest(Trees.instance(task), unit);
            test.scan(new TreePath(unit), null);
            test.lookAtCalls();
            test.check.end("LanguageTest");
        }
    }
}
