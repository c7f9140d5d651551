import com.sun.source.tree.BinaryTree;
import com.sun.source.tree.BlockTree;
import com.sun.source.tree.ClassTree;
import com.sun.source.tree.CompilationUnitTree;
import com.sun.source.tree.ExpressionTree;
import com.sun.source.tree.ImportTree;
import com.sun.source.tree.MethodInvocationTree;
import com.sun.source.tree.MethodTree;
import com.sun.source.tree.NewArrayTree;
import com.sun.source.tree.NewClassTree;
import com.sun.source.tree.ThrowTree;
import com.sun.source.tree.Tree;
import com.sun.source.tree.TryTree;
import com.sun.source.tree.VariableTree;
import com.sun.source.util.JavacTask;
import com.sun.source.util.TreePath;
import com.sun.source.util.TreePathScanner;
import com.sun.source.util.Trees;
import java.io.IOException;
import java.util.LinkedHashMap;
import java.util.LinkedHashSet;
import java.util.List;
import java.util.Map;
import java.util.Set;
import javax.lang.model.element.Element;
import javax.lang.model.element.ElementKind;
import javax.lang.model.element.Modifier;
import javax.lang.model.type.ArrayType;
import javax.lang.model.type.TypeMirror;
import javax.tools.JavaCompiler;
import javax.tools.StandardJavaFileManager;
import javax.tools.ToolProvider;

/**
 * Those rules of ../shared/LANGUAGE.md that can be seen in the program's text, each told by its number. Two are held
 * more strictly than they stand there: no method calls itself, and only constructors make objects and arrays.
 */
public final class LanguageTest extends TreePathScanner<Void, Void> {
    private static final String PROGRAM = "src/main/java/PatienceTable.java";
    private static final int MOST_PARAMETERS = 7;
    private static final int MOST_LINES = 60;
    private static final int MOST_DEPTH = 8;
    private static final int MOST_CLASSES = 12;
    private static final int MOST_FIELDS = 20;

    private static final Set<String> IMPORTED = Set.of("java.util.Arrays", "java.util.ArrayList", "java.util.List",
            "java.util.Iterator", "java.util.NoSuchElementException");
    private static final Set<String> TYPES = Set.of("java.lang.String", "java.lang.StringBuilder",
            "java.lang.Integer", "java.util.ArrayList", "java.util.List", "java.util.Iterator");
    private static final Map<String, Set<String>> LIBRARY = Map.of(
            "java.lang.String", Set.of("length", "charAt", "isEmpty", "equals", "indexOf", "substring", "toCharArray"),
            "java.lang.StringBuilder", Set.of("append", "charAt", "setCharAt", "setLength", "deleteCharAt", "reverse",
                    "length", "toString"),
            "java.util.ArrayList", Set.of("add", "get", "set", "remove", "size", "isEmpty", "clear"),
            "java.util.List", Set.of("add", "get", "set", "remove", "size", "isEmpty", "clear", "of"),
            "java.lang.Math", Set.of("max", "min", "abs", "floorDiv", "floorMod"),
            "java.lang.Integer", Set.of("compare", "max", "min", "bitCount"),
            "java.lang.Long", Set.of("compare", "max", "min", "bitCount"),
            "java.lang.System", Set.of("arraycopy"),
            "java.util.Arrays", Set.of("copyOf", "copyOfRange", "fill"),
            "java.lang.Object", Set.of("<init>"));
    private static final Set<String> EXCEPTIONS = Set.of("IllegalStateException", "IllegalArgumentException",
            "IndexOutOfBoundsException", "ArithmeticException", "UnsupportedOperationException",
            "NoSuchElementException", "RuntimeException");
    // With the rule that says so; that there is no package line stands before the first one.
    private static final Map<Tree.Kind, Integer> NEVER = Map.of(Tree.Kind.PACKAGE, 0, Tree.Kind.LAMBDA_EXPRESSION, 2,
            Tree.Kind.MEMBER_REFERENCE, 2, Tree.Kind.SYNCHRONIZED, 6, Tree.Kind.ASSERT, 6);

    private final Check check;
    private final CompilationUnitTree unit;
    private final Trees trees;
    private final Map<Element, Set<Element>> calls = new LinkedHashMap<>();
    private MethodTree method = null;
    private int classes = 0;

    private LanguageTest(Check check, CompilationUnitTree unit, Trees trees) {
        this.check = check;
        this.unit = unit;
        this.trees = trees;
    }

    public static void main(String[] args) throws IOException {
        Check check = new Check("language");
        JavaCompiler compiler = ToolProvider.getSystemJavaCompiler();
        try (StandardJavaFileManager files = compiler.getStandardFileManager(null, null, null)) {
            JavacTask task = (JavacTask) compiler.getTask(null, files, null, null, null,
                    files.getJavaFileObjects(PROGRAM));
            CompilationUnitTree unit = task.parse().iterator().next();
            task.analyze();
            LanguageTest test = new LanguageTest(check, unit, Trees.instance(task));
            test.scan(unit, null);
            test.wholeProgram();
        }
        check.end();
    }

    /** Tells a broken rule with the line where it is. */
    private void rule(int number, Tree tree, String what, boolean holds) {
        long line = unit.getLineMap().getLineNumber(trees.getSourcePositions().getStartPosition(unit, tree));
        check.that("rule " + number + ", line " + line + ": " + what, holds);
    }

    private void wholeProgram() {
        check.that("rule 11: " + classes + " classes", classes <= MOST_CLASSES);
        for (Element called : calls.keySet()) {
            int depth = depthOf(called, new LinkedHashSet<>());
            check.that("rule 11: " + called + " goes " + depth + " calls deep", depth <= MOST_DEPTH);
        }
    }

    /** How many calls stand open at once at most, from this one down. */
    private int depthOf(Element called, Set<Element> open) {
        if (!open.add(called)) {
            check.that("rule 8: " + called + " calls itself", false);
            return 0;
        }
        int deepest = 0;
        for (Element further : calls.getOrDefault(called, Set.of())) {
            deepest = Math.max(deepest, depthOf(further, open));
        }
        open.remove(called);
        return deepest + 1;
    }

    private Element elementOf(Tree tree) {
        return trees.getElement(new TreePath(getCurrentPath(), tree));
    }

    private static String ownerOf(Element element) {
        return element.getEnclosingElement().toString();
    }

    private static boolean isOwn(String type) {
        return type.equals("PatienceTable") || type.startsWith("PatienceTable.");
    }

    @Override
    public Void scan(Tree tree, Void none) {
        if (tree != null && NEVER.containsKey(tree.getKind())) {
            rule(NEVER.get(tree.getKind()), tree, "no " + tree.getKind(), false);
        }
        return super.scan(tree, none);
    }

    @Override
    public Void visitImport(ImportTree tree, Void none) {
        String name = tree.getQualifiedIdentifier().toString();
        rule(4, tree, "import of " + name, IMPORTED.contains(name) && !tree.isStatic());
        return super.visitImport(tree, none);
    }

    @Override
    public Void visitClass(ClassTree tree, Void none) {
        classes++;
        rule(2, tree, "a class in a method", method == null);
        boolean isFace = tree.getSimpleName().contentEquals("PatienceTable");
        Set<Modifier> modifiers = tree.getModifiers().getFlags();
        rule(1, tree, "a class inside is private and static",
                isFace || modifiers.contains(Modifier.PRIVATE) && modifiers.contains(Modifier.STATIC));
        int fields = 0;
        for (Tree member : tree.getMembers()) {
            boolean isField = member instanceof VariableTree;
            fields += isField && !((VariableTree) member).getModifiers().getFlags().contains(Modifier.STATIC) ? 1 : 0;
            rule(5, member, "a static initialiser", !(member instanceof BlockTree));
        }
        rule(11, tree, fields + " fields", fields <= MOST_FIELDS);
        return super.visitClass(tree, none);
    }

    @Override
    public Void visitVariable(VariableTree tree, Void none) {
        Element variable = trees.getElement(getCurrentPath());
        TypeMirror type = variable.asType();
        while (type instanceof ArrayType array) {
            type = array.getComponentType();
        }
        String name = type.toString().replaceAll("<.*", "");
        rule(3, tree, "a variable of " + name, type.getKind().isPrimitive() || isOwn(name) || TYPES.contains(name)
                || variable.getKind() == ElementKind.EXCEPTION_PARAMETER);
        if (variable.getModifiers().contains(Modifier.STATIC)) {
            rule(5, tree, "static " + variable + " is final",
                    variable.getModifiers().contains(Modifier.FINAL) && !isOwn(name));
        }
        return super.visitVariable(tree, none);
    }

    @Override
    public Void visitMethod(MethodTree tree, Void none) {
        rule(11, tree, tree.getParameters().size() + " parameters", tree.getParameters().size() <= MOST_PARAMETERS);
        long first = trees.getSourcePositions().getStartPosition(unit, tree);
        long last = trees.getSourcePositions().getEndPosition(unit, tree);
        long lines = unit.getLineMap().getLineNumber(last) - unit.getLineMap().getLineNumber(first) + 1;
        rule(11, tree, tree.getName() + " has " + lines + " lines", lines <= MOST_LINES);
        rule(6, tree, "an own " + tree.getName(),
                !Set.of("equals", "hashCode", "toString").contains(tree.getName().toString()));
        method = tree;
        calls.put(trees.getElement(getCurrentPath()), new LinkedHashSet<>());
        super.visitMethod(tree, none);
        method = null;
        return null;
    }

    private void noteCall(Element called) {
        if (method != null && isOwn(ownerOf(called))) {
            TreePath path = getCurrentPath();
            while (path.getLeaf() != method) {
                path = path.getParentPath();
            }
            calls.get(trees.getElement(path)).add(called);
        }
    }

    @Override
    public Void visitMethodInvocation(MethodInvocationTree tree, Void none) {
        Element called = elementOf(tree.getMethodSelect());
        String owner = ownerOf(called);
        boolean listed = LIBRARY.getOrDefault(owner, Set.of()).contains(called.getSimpleName().toString());
        rule(4, tree, owner + "." + called, isOwn(owner) || listed);
        noteCall(called);
        return super.visitMethodInvocation(tree, none);
    }

    /** In a constructor or in the initialiser of a field. */
    private boolean isMaking() {
        return method == null || method.getReturnType() == null;
    }

    @Override
    public Void visitNewClass(NewClassTree tree, Void none) {
        boolean isThrown = getCurrentPath().getParentPath().getLeaf() instanceof ThrowTree;
        String name = tree.getIdentifier().toString();
        rule(3, tree, "new " + name, isThrown ? EXCEPTIONS.contains(name)
                : isOwn(ownerOf(trees.getElement(getCurrentPath()))));
        rule(12, tree, "new " + name + " in a call", isThrown || isMaking());
        noteCall(trees.getElement(getCurrentPath()));
        return super.visitNewClass(tree, none);
    }

    @Override
    public Void visitNewArray(NewArrayTree tree, Void none) {
        rule(12, tree, "a new array in a call", isMaking());
        return super.visitNewArray(tree, none);
    }

    @Override
    public Void visitThrow(ThrowTree tree, Void none) {
        rule(6, tree, "a throw in a constructor", !isMaking());
        List<? extends ExpressionTree> arguments = tree.getExpression() instanceof NewClassTree made
                ? made.getArguments() : null;
        rule(6, tree, "what is thrown has no text or a written one", arguments != null && (arguments.isEmpty()
                || arguments.size() == 1 && arguments.get(0).getKind() == Tree.Kind.STRING_LITERAL));
        return super.visitThrow(tree, none);
    }

    @Override
    public Void visitTry(TryTree tree, Void none) {
        rule(6, tree, "finally or resources", tree.getFinallyBlock() == null && tree.getResources().isEmpty());
        return super.visitTry(tree, none);
    }

    @Override
    public Void visitBinary(BinaryTree tree, Void none) {
        boolean isText = trees.getTypeMirror(getCurrentPath()).toString().equals("java.lang.String");
        rule(10, tree, "texts joined by +", !isText);
        return super.visitBinary(tree, none);
    }
}
