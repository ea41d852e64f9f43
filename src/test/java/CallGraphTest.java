import com.sun.source.tree.ClassTree;
import com.sun.source.tree.CompilationUnitTree;
import com.sun.source.tree.LambdaExpressionTree;
import com.sun.source.tree.MemberReferenceTree;
import com.sun.source.tree.MethodInvocationTree;
import com.sun.source.tree.MethodTree;
import com.sun.source.tree.NewClassTree;
import com.sun.source.tree.SynchronizedTree;
import com.sun.source.tree.ThrowTree;
import com.sun.source.tree.Tree;
import com.sun.source.tree.TryTree;
import com.sun.source.util.JavacTask;
import com.sun.source.util.TreePathScanner;
import com.sun.source.util.Trees;
import java.io.File;
import java.io.IOException;
import java.util.ArrayList;
import java.util.HashMap;
import java.util.List;
import java.util.Map;
import java.util.Set;
import java.util.TreeSet;
import javax.lang.model.element.Element;
import javax.tools.JavaCompiler;
import javax.tools.StandardJavaFileManager;
import javax.tools.ToolProvider;

/**
 * What of LANGUAGE.md the compiler can tell: what is taken of the library (rule 4), that nothing is thrown or caught
 * (rule 6), and that the calls are no recursion and go at most eight deep (rules 8 and 11). It runs in the project's folder.
 */
public final class CallGraphTest extends TreePathScanner<Void, Void> {
    private static final File SOURCE = new File("src/main/java/VerseSetter.java");
    private static final int DEEPEST = 8;

    /** What this class needs of what rule 4 allows. */
    private static final Set<String> LIBRARY = Set.of("java.lang.Object.<init>", "java.lang.Integer.bitCount", "java.lang.Math.max",
        "java.lang.Math.min", "java.lang.System.arraycopy", "java.util.Arrays.fill");

    private final Trees trees;
    private final Map<String, Set<String>> calls = new HashMap<>();
    private String owner = "";
    private String method = "";
    private int wrong = 0;

    private CallGraphTest(Trees trees) {
        this.trees = trees;
    }

    public static void main(String[] args) throws IOException {
        JavaCompiler compiler = ToolProvider.getSystemJavaCompiler();
        try (StandardJavaFileManager files = compiler.getStandardFileManager(null, null, null)) {
            JavacTask task = (JavacTask) compiler.getTask(null, files, null, List.of("-proc:none"), null, files.getJavaFileObjects(SOURCE));
            CallGraphTest test = new CallGraphTest(Trees.instance(task));
            Iterable<? extends CompilationUnitTree> units = task.parse();
            task.analyze();
            test.scan(units, null);
            test.end();
        }
    }

    private void end() {
        int deepest = 0;
        for (String name : calls.keySet()) {
            deepest = Math.max(deepest, depth(name, new ArrayList<>()));
        }
        if (calls.size() < 60 || deepest < 2) {
            report("only " + calls.size() + " methods were found, " + deepest + " deep");
        }
        System.out.println("the calls: " + calls.size() + " methods, " + deepest + " deep, " + wrong + " wrong");
        if (wrong != 0) {
            System.exit(1);
        }
    }

    private void report(String what) {
        wrong++;
        System.out.println(SOURCE + ": " + what);
    }

    /** How many calls are open at most while this one is, itself included. */
    private int depth(String name, List<String> open) {
        if (open.contains(name)) {
            report(name + " calls itself: " + open);
            return 1;
        }
        open.add(name);
        if (open.size() > DEEPEST) {
            report("more than " + DEEPEST + " deep: " + open);
        }
        int deepest = 0;
        for (String target : calls.getOrDefault(name, Set.of())) {
            deepest = Math.max(deepest, depth(target, open));
        }
        open.remove(open.size() - 1);
        return deepest + 1;
    }

    // ---- what stands in the source

    /** What stands outside the methods of a class, as the initial values of its fields, is done by its constructors. */
    @Override
    public Void visitClass(ClassTree tree, Void nothing) {
        String outerOwner = owner;
        String outerMethod = method;
        owner = trees.getElement(getCurrentPath()).toString();
        method = owner + ".<init>";
        calls.putIfAbsent(method, new TreeSet<>());
        super.visitClass(tree, nothing);
        owner = outerOwner;
        method = outerMethod;
        return null;
    }

    @Override
    public Void visitMethod(MethodTree tree, Void nothing) {
        String outer = method;
        method = owner + "." + tree.getName();
        calls.putIfAbsent(method, new TreeSet<>());
        super.visitMethod(tree, nothing);
        method = outer;
        return null;
    }

    @Override
    public Void visitMethodInvocation(MethodInvocationTree tree, Void nothing) {
        addCall();
        return super.visitMethodInvocation(tree, nothing);
    }

    @Override
    public Void visitNewClass(NewClassTree tree, Void nothing) {
        addCall();
        return super.visitNewClass(tree, nothing);
    }

    private void addCall() {
        Element called = trees.getElement(getCurrentPath());
        String target = called.getEnclosingElement() + "." + called.getSimpleName();
        if (target.startsWith("VerseSetter.")) {
            calls.get(method).add(target);
        } else if (!LIBRARY.contains(target)) {
            report(method + " calls " + target);
        }
    }

    @Override
    public Void visitThrow(ThrowTree tree, Void nothing) {
        return refuse(tree);
    }

    @Override
    public Void visitTry(TryTree tree, Void nothing) {
        return refuse(tree);
    }

    @Override
    public Void visitSynchronized(SynchronizedTree tree, Void nothing) {
        return refuse(tree);
    }

    @Override
    public Void visitLambdaExpression(LambdaExpressionTree tree, Void nothing) {
        return refuse(tree);
    }

    @Override
    public Void visitMemberReference(MemberReferenceTree tree, Void nothing) {
        return refuse(tree);
    }

    private Void refuse(Tree tree) {
        report(method + " has " + tree.getKind());
        return null;
    }
}
