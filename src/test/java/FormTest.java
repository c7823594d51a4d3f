import com.sun.source.tree.AssertTree;
import com.sun.source.tree.BinaryTree;
import com.sun.source.tree.ClassTree;
import com.sun.source.tree.CompilationUnitTree;
import com.sun.source.tree.DoWhileLoopTree;
import com.sun.source.tree.EnhancedForLoopTree;
import com.sun.source.tree.ImportTree;
import com.sun.source.tree.LambdaExpressionTree;
import com.sun.source.tree.MemberReferenceTree;
import com.sun.source.tree.MethodInvocationTree;
import com.sun.source.tree.MethodTree;
import com.sun.source.tree.NewClassTree;
import com.sun.source.tree.SynchronizedTree;
import com.sun.source.tree.ThrowTree;
import com.sun.source.tree.Tree;
import com.sun.source.tree.TryTree;
import com.sun.source.tree.VariableTree;
import com.sun.source.util.JavacTask;
import com.sun.source.util.TreePathScanner;
import com.sun.source.util.Trees;
import java.io.File;
import java.util.HashMap;
import java.util.List;
import java.util.Map;
import java.util.Set;
import java.util.TreeSet;
import javax.lang.model.element.Element;
import javax.lang.model.element.ElementKind;
import javax.lang.model.element.ExecutableElement;
import javax.lang.model.element.Modifier;
import javax.lang.model.type.TypeKind;
import javax.tools.JavaCompiler;
import javax.tools.StandardJavaFileManager;
import javax.tools.ToolProvider;

/** What of LANGUAGE.md can be read off the source of Flowkeeper: words, sizes, the depth of calls. */
final class FormTest extends TreePathScanner<Void, Void> {
    private static final int MOST_LINES = 60;
    private static final int MOST_PARAMETERS = 7;
    private static final int MOST_FIELDS = 20;
    private static final int MOST_DEPTH = 8;
    private static final Set<String> THROWN = Set.of("IllegalStateException", "IllegalArgumentException",
            "IndexOutOfBoundsException");
    private static final Set<String> LIBRARY = Set.of("Math.max", "Math.min");
    /** The only ones that call one another; they carry their depth. */
    private static final Set<String> RECURSION = Set.of("letGo", "leaveChild");

    private final CompilationUnitTree unit;
    private final Trees trees;
    private final Map<Element, Set<Element>> calls = new HashMap<>();
    private Element method;

    private FormTest(CompilationUnitTree unit, Trees trees) {
        this.unit = unit;
        this.trees = trees;
    }

    public static void main(String[] args) throws Exception {
        File source = new File(System.getProperty("source", "src/main/java/Flowkeeper.java"));
        JavaCompiler compiler = ToolProvider.getSystemJavaCompiler();
        StandardJavaFileManager files = compiler.getStandardFileManager(null, null, null);
        JavacTask task = (JavacTask) compiler.getTask(null, files, null, List.of("-proc:none"), null,
                files.getJavaFileObjects(source));
        CompilationUnitTree unit = task.parse().iterator().next();
        task.analyze();
        FormTest form = new FormTest(unit, Trees.instance(task));
        form.scan(unit, null);
        form.depths();
        Check.holds("no package line", () -> Check.truth(unit.getPackageName() == null));
        Check.due("one class in the file", 1, () -> unit.getTypeDecls().size());
        Check.holds("signs are 1 to 127", () -> {
            try {
                return Check.truth(unit.getSourceFile().getCharContent(true).chars().allMatch(c -> c > 0 && c < 128));
            } catch (java.io.IOException e) {
                return 0;
            }
        });
        Check.done("FormTest");
    }

    private void banned(Tree tree, String rule) {
        Check.same("line " + line(tree, false), "nothing of this kind", rule);
    }

    private long line(Tree tree, boolean atEnd) {
        long place = atEnd ? trees.getSourcePositions().getEndPosition(unit, tree)
                : trees.getSourcePositions().getStartPosition(unit, tree);
        return unit.getLineMap().getLineNumber(place);
    }

    private void depths() {
        int deepest = 0;
        for (Element e : calls.keySet()) {
            int depth = depth(e, new TreeSet<>());
            deepest = Math.max(deepest, depth);
            Check.holds("calls from " + e + " go " + depth + " deep", () -> Check.truth(depth <= MOST_DEPTH));
        }
        System.out.println("    the deepest call goes " + deepest + " deep");
    }

    private int depth(Element from, Set<String> open) {
        String name = from.getEnclosingElement() + "." + from;
        if (!open.add(name)) {
            Check.holds("the recursion of " + name, () -> Check.truth(RECURSION.contains(from.getSimpleName().toString())));
            return 0;
        }
        int depth = 0;
        for (Element to : calls.getOrDefault(from, Set.of())) {
            depth = Math.max(depth, depth(to, open));
        }
        open.remove(name);
        return depth + 1;
    }

    private void called(Element callee) {
        if (method != null && callee.getEnclosingElement().toString().startsWith("Flowkeeper")) {
            calls.computeIfAbsent(method, m -> new java.util.HashSet<>()).add(callee);
        }
    }

    @Override
    public Void visitClass(ClassTree tree, Void nothing) {
        long fields = tree.getMembers().stream().filter(m -> m instanceof VariableTree v
                && !v.getModifiers().getFlags().contains(Modifier.STATIC)).count();
        Check.holds(tree.getSimpleName() + " has " + fields + " fields", () -> Check.truth(fields <= MOST_FIELDS));
        if (tree.getMembers().stream().anyMatch(m -> m.getKind() == Tree.Kind.BLOCK)) {
            banned(tree, "initialiser block");
        }
        return super.visitClass(tree, nothing);
    }

    @Override
    public Void visitMethod(MethodTree tree, Void nothing) {
        method = trees.getElement(getCurrentPath());
        long lines = line(tree, true) - line(tree, false) + 1;
        Check.holds(method + " has " + lines + " lines", () -> Check.truth(lines <= MOST_LINES));
        Check.holds(method + " has so many parameters",
                () -> Check.truth(tree.getParameters().size() <= MOST_PARAMETERS));
        super.visitMethod(tree, nothing);
        method = null;
        return null;
    }

    @Override
    public Void visitVariable(VariableTree tree, Void nothing) {
        Set<Modifier> flags = tree.getModifiers().getFlags();
        if (flags.contains(Modifier.STATIC) && !flags.contains(Modifier.FINAL)) {
            banned(tree, "static state");
        }
        return super.visitVariable(tree, nothing);
    }

    @Override
    public Void visitMethodInvocation(MethodInvocationTree tree, Void nothing) {
        ExecutableElement callee = (ExecutableElement) trees.getElement(getCurrentPath());
        String owner = callee.getEnclosingElement().toString();
        if (owner.startsWith("Flowkeeper")) {
            called(callee);
        } else if (!callee.getSimpleName().contentEquals("<init>")
                && !LIBRARY.contains(tree.getMethodSelect().toString())) {
            banned(tree, tree.toString());
        }
        return super.visitMethodInvocation(tree, nothing);
    }

    @Override
    public Void visitNewClass(NewClassTree tree, Void nothing) {
        Element made = trees.getElement(getCurrentPath());
        if (made.getEnclosingElement().toString().startsWith("Flowkeeper")) {
            called(made);
        } else if (getCurrentPath().getParentPath().getLeaf().getKind() != Tree.Kind.THROW) {
            banned(tree, tree.toString());
        }
        return super.visitNewClass(tree, nothing);
    }

    @Override
    public Void visitThrow(ThrowTree tree, Void nothing) {
        if (!(tree.getExpression() instanceof NewClassTree made) || !THROWN.contains(made.getIdentifier().toString())
                || made.getArguments().stream().anyMatch(a -> a.getKind() != Tree.Kind.STRING_LITERAL)) {
            banned(tree, tree.toString());
        }
        if (method == null || method.getKind() == ElementKind.CONSTRUCTOR) {
            banned(tree, "throw in a constructor");
        }
        return super.visitThrow(tree, nothing);
    }

    @Override
    public Void visitBinary(BinaryTree tree, Void nothing) {
        TypeKind kind = trees.getTypeMirror(getCurrentPath()).getKind();
        if (!kind.isPrimitive()) {
            banned(tree, "texts joined by +");
        }
        if ((tree.getKind() == Tree.Kind.DIVIDE || tree.getKind() == Tree.Kind.REMAINDER)
                && !tree.getRightOperand().toString().startsWith("MOST_")) {
            banned(tree, "a divisor that is no constant");
        }
        return super.visitBinary(tree, nothing);
    }

    @Override
    public Void visitImport(ImportTree tree, Void nothing) {
        banned(tree, "import");
        return null;
    }

    @Override
    public Void visitLambdaExpression(LambdaExpressionTree tree, Void nothing) {
        banned(tree, "lambda");
        return null;
    }

    @Override
    public Void visitMemberReference(MemberReferenceTree tree, Void nothing) {
        banned(tree, "method reference");
        return null;
    }

    @Override
    public Void visitTry(TryTree tree, Void nothing) {
        banned(tree, "try");
        return null;
    }

    @Override
    public Void visitAssert(AssertTree tree, Void nothing) {
        banned(tree, "assert");
        return null;
    }

    @Override
    public Void visitSynchronized(SynchronizedTree tree, Void nothing) {
        banned(tree, "synchronized");
        return null;
    }

    @Override
    public Void visitDoWhileLoop(DoWhileLoopTree tree, Void nothing) {
        banned(tree, "do (not needed here)");
        return null;
    }

    @Override
    public Void visitEnhancedForLoop(EnhancedForLoopTree tree, Void nothing) {
        banned(tree, "for over (not needed here)");
        return null;
    }
}
