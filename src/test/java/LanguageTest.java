import com.sun.source.tree.AssertTree;
import com.sun.source.tree.BinaryTree;
import com.sun.source.tree.BlockTree;
import com.sun.source.tree.ClassTree;
import com.sun.source.tree.CompilationUnitTree;
import com.sun.source.tree.ImportTree;
import com.sun.source.tree.LambdaExpressionTree;
import com.sun.source.tree.MemberReferenceTree;
import com.sun.source.tree.MethodInvocationTree;
import com.sun.source.tree.MethodTree;
import com.sun.source.tree.NewArrayTree;
import com.sun.source.tree.NewClassTree;
import com.sun.source.tree.SynchronizedTree;
import com.sun.source.tree.ThrowTree;
import com.sun.source.tree.Tree;
import com.sun.source.tree.TryTree;
import com.sun.source.tree.VariableTree;
import com.sun.source.util.JavacTask;
import com.sun.source.util.TreePath;
import com.sun.source.util.TreePathScanner;
import com.sun.source.util.Trees;
import java.io.File;
import java.util.ArrayDeque;
import java.util.Collections;
import java.util.Deque;
import java.util.HashMap;
import java.util.HashSet;
import java.util.List;
import java.util.Map;
import java.util.Set;
import java.util.TreeSet;
import javax.lang.model.element.Element;
import javax.lang.model.element.Modifier;
import javax.lang.model.type.TypeMirror;
import javax.tools.JavaCompiler;
import javax.tools.StandardJavaFileManager;
import javax.tools.ToolProvider;

/** The rules of LANGUAGE.md that can be seen in the tree of src/main/java/DryPlaces.java. */
public final class LanguageTest extends TreePathScanner<Void, Void> {
    private static final int MOST_LINES = 60;
    private static final int MOST_PARAMETERS = 7;
    private static final int MOST_CLASSES = 12;
    private static final int MOST_FIELDS = 20;
    private static final int MOST_DEEP = 8;
    private static final Set<String> LIBRARY = Set.of(
        "String.length", "String.charAt", "String.indexOf", "Arrays.fill", "System.arraycopy", "Math.min", "Math.max", "Math.abs",
        "Long.bitCount", "Object.<init>");
    private static final Set<String> CONSTANTS = Set.of("int", "long", "boolean", "char", "java.lang.String");

    private final Trees trees;
    private final CompilationUnitTree unit;
    private final Map<String, Set<String>> calls = new HashMap<>();
    private final Set<String> recursive = new TreeSet<>();
    private final Deque<String> inside = new ArrayDeque<>();
    private int classes = 0;

    private LanguageTest(Trees trees, CompilationUnitTree unit) {
        this.trees = trees;
        this.unit = unit;
    }

    public static void main(String[] args) throws Exception {
        JavaCompiler compiler = ToolProvider.getSystemJavaCompiler();
        try (StandardJavaFileManager files = compiler.getStandardFileManager(null, null, null)) {
            JavacTask task = (JavacTask) compiler.getTask(null, files, null, List.of("-proc:none"), null,
                files.getJavaFileObjects(new File("src/main/java/DryPlaces.java")));
            CompilationUnitTree unit = task.parse().iterator().next();
            task.analyze();
            LanguageTest test = new LanguageTest(Trees.instance(task), unit);
            test.scan(new TreePath(unit), null);
            Due.is("classes, at most", test.classes <= MOST_CLASSES, true);
            test.depths();
        }
        Due.close();
    }

    private void refuse(Tree tree, String rule) {
        long line = unit.getLineMap().getLineNumber(trees.getSourcePositions().getStartPosition(unit, tree));
        Due.is("line " + line + ": " + rule, 1, 0);
    }

    private Element element() {
        return trees.getElement(getCurrentPath());
    }

    private static String name(Element method) {
        return method.getEnclosingElement().getSimpleName() + "." + method.getSimpleName();
    }

    @Override
    public Void visitImport(ImportTree tree, Void none) {
        Due.is("import " + tree.getQualifiedIdentifier(), tree.getQualifiedIdentifier().toString().equals("java.util.Arrays"), true);
        return null;
    }

    @Override
    public Void visitClass(ClassTree tree, Void none) {
        classes++;
        int fields = 0;
        for (Tree member : tree.getMembers()) {
            if (member instanceof VariableTree field) {
                fields += field.getModifiers().getFlags().contains(Modifier.STATIC) ? 0 : 1;
            }
            if (member instanceof BlockTree) {
                refuse(member, "an initialiser block");
            }
        }
        Due.is("fields of " + tree.getSimpleName(), fields <= MOST_FIELDS, true);
        if (getCurrentPath().getParentPath().getLeaf() instanceof ClassTree
            && !tree.getModifiers().getFlags().contains(Modifier.STATIC)) {
            refuse(tree, "an inner class");
        }
        if (getCurrentPath().getParentPath().getLeaf() instanceof BlockTree) {
            refuse(tree, "a local class");
        }
        return super.visitClass(tree, none);
    }

    @Override
    public Void visitVariable(VariableTree tree, Void none) {
        Set<Modifier> flags = tree.getModifiers().getFlags();
        if (flags.contains(Modifier.STATIC)) {
            TypeMirror type = element().asType();
            Due.is("constant " + tree.getName(), flags.contains(Modifier.FINAL) && CONSTANTS.contains(type.toString()), true);
        }
        return super.visitVariable(tree, none);
    }

    @Override
    public Void visitMethod(MethodTree tree, Void none) {
        long from = unit.getLineMap().getLineNumber(trees.getSourcePositions().getStartPosition(unit, tree));
        long to = unit.getLineMap().getLineNumber(trees.getSourcePositions().getEndPosition(unit, tree));
        Due.is("lines of " + tree.getName(), to - from < MOST_LINES, true);
        Due.is("parameters of " + tree.getName(), tree.getParameters().size() <= MOST_PARAMETERS, true);
        String name = name(element());
        Due.is("one method of the name " + name, calls.containsKey(name), false);
        calls.put(name, new HashSet<>());
        inside.push(name);
        super.visitMethod(tree, none);
        inside.pop();
        return null;
    }

    @Override
    public Void visitMethodInvocation(MethodInvocationTree tree, Void none) {
        Element method = trees.getElement(getCurrentPath());
        String name = name(method);
        if (isOwn(method.getEnclosingElement())) {
            String from = inside.isEmpty() ? "fields" : inside.peek();
            calls.computeIfAbsent(from, key -> new HashSet<>()).add(name);
        } else {
            Due.is("library: " + name, LIBRARY.contains(name), true);
        }
        return super.visitMethodInvocation(tree, none);
    }

    private static boolean isOwn(Element type) {
        for (Element at = type; at != null; at = at.getEnclosingElement()) {
            if (at.getSimpleName().contentEquals("DryPlaces")) {
                return true;
            }
        }
        return false;
    }

    /** A call makes nothing: objects and rows come from fields and constructors alone. */
    private void made(Tree tree) {
        Due.is("made in a method at " + unit.getLineMap().getLineNumber(trees.getSourcePositions().getStartPosition(unit, tree)),
            inside.isEmpty() || inside.peek().endsWith("<init>"), true);
    }

    @Override
    public Void visitNewClass(NewClassTree tree, Void none) {
        made(tree);
        if (tree.getClassBody() != null) {
            refuse(tree, "an anonymous class");
        }
        return super.visitNewClass(tree, none);
    }

    @Override
    public Void visitNewArray(NewArrayTree tree, Void none) {
        made(tree);
        return super.visitNewArray(tree, none);
    }

    @Override
    public Void visitBinary(BinaryTree tree, Void none) {
        if (tree.getKind() == Tree.Kind.PLUS && trees.getTypeMirror(getCurrentPath()).toString().equals("java.lang.String")) {
            refuse(tree, "texts joined by +");
        }
        return super.visitBinary(tree, none);
    }

    @Override
    public Void visitThrow(ThrowTree tree, Void none) {
        refuse(tree, "throw");
        return null;
    }

    @Override
    public Void visitTry(TryTree tree, Void none) {
        refuse(tree, "try");
        return null;
    }

    @Override
    public Void visitSynchronized(SynchronizedTree tree, Void none) {
        refuse(tree, "synchronized");
        return null;
    }

    @Override
    public Void visitAssert(AssertTree tree, Void none) {
        refuse(tree, "assert");
        return null;
    }

    @Override
    public Void visitLambdaExpression(LambdaExpressionTree tree, Void none) {
        refuse(tree, "a lambda");
        return null;
    }

    @Override
    public Void visitMemberReference(MemberReferenceTree tree, Void none) {
        refuse(tree, "a method reference");
        return null;
    }

    /** No chain of calls is deeper than eight, each method counted once; only the reader of conditions is recursive. */
    private void depths() {
        for (String method : calls.keySet()) {
            depth(method, new ArrayDeque<>());
        }
        Due.is("recursive: " + recursive, recursive.equals(Set.of("Parser.readCondition", "Parser.readOne")), true);
    }

    private void depth(String method, Deque<String> open) {
        if (open.contains(method)) {
            for (String one : open) {
                recursive.add(one);
                if (one.equals(method)) {
                    break;
                }
            }
            return;
        }
        open.push(method);
        if (open.size() > MOST_DEEP) {
            Due.is("a chain of calls: " + String.join(" < ", open), open.size(), MOST_DEEP);
        } else {
            for (String next : calls.getOrDefault(method, Collections.emptySet())) {
                depth(next, open);
            }
        }
        open.pop();
    }
}
