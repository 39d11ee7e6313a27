import com.sun.source.tree.ArrayAccessTree;
import com.sun.source.tree.AssertTree;
import com.sun.source.tree.AssignmentTree;
import com.sun.source.tree.ClassTree;
import com.sun.source.tree.CompilationUnitTree;
import com.sun.source.tree.CompoundAssignmentTree;
import com.sun.source.tree.InstanceOfTree;
import com.sun.source.tree.LambdaExpressionTree;
import com.sun.source.tree.LiteralTree;
import com.sun.source.tree.MemberReferenceTree;
import com.sun.source.tree.MethodInvocationTree;
import com.sun.source.tree.MethodTree;
import com.sun.source.tree.NewArrayTree;
import com.sun.source.tree.NewClassTree;
import com.sun.source.tree.SynchronizedTree;
import com.sun.source.tree.ThrowTree;
import com.sun.source.tree.Tree;
import com.sun.source.tree.TryTree;
import com.sun.source.tree.TypeCastTree;
import com.sun.source.tree.UnaryTree;
import com.sun.source.tree.VariableTree;
import com.sun.source.util.JavacTask;
import com.sun.source.util.TreePath;
import com.sun.source.util.TreePathScanner;
import com.sun.source.util.Trees;
import java.io.File;
import java.io.IOException;
import java.util.HashMap;
import java.util.HashSet;
import java.util.List;
import java.util.Map;
import java.util.Set;
import javax.lang.model.element.Element;
import javax.lang.model.element.ElementKind;
import javax.lang.model.element.Modifier;
import javax.lang.model.type.ArrayType;
import javax.lang.model.type.TypeKind;
import javax.lang.model.type.TypeMirror;
import javax.tools.JavaCompiler;
import javax.tools.StandardJavaFileManager;
import javax.tools.ToolProvider;

/** What of ../shared/LANGUAGE.md can be read off the source. */
public final class LanguageTest extends TreePathScanner<Void, Void> {
    private static final String SOURCE = "src/main/java/WarnLines.java";
    private static final Set<String> FACE = Set.of("group", "told", "read", "set", "value", "of", "base", "leftOut",
        "zone", "type", "wipe", "fault", "warns", "warned", "odds", "oddsOf", "soon", "cheaper", "sum", "over",
        "cause", "blamed", "smoothed", "sheet", "lose", "lay", "get", "copy", "write", "count", "digest");
    private static final Set<String> CONSTANTS = Set.of("NONE", "BAD", "NOT", "FULL");
    private static final Set<String> LIBRARY = Set.of("java.lang.Math.min", "java.lang.Math.max", "java.lang.Math.abs",
        "java.lang.Math.floorDiv", "java.lang.Integer.bitCount", "java.lang.Integer.compare",
        "java.lang.System.arraycopy", "Array.clone");

    private final Trees trees;
    private final CompilationUnitTree unit;
    private final Map<Element, Set<Element>> calls = new HashMap<>();
    private final Set<String> faceFound = new HashSet<>();
    private int classes = 0;

    private LanguageTest(Trees trees, CompilationUnitTree unit) {
        this.trees = trees;
        this.unit = unit;
    }

    public static void main(String[] args) throws IOException {
        JavaCompiler javac = ToolProvider.getSystemJavaCompiler();
        StandardJavaFileManager files = javac.getStandardFileManager(null, null, null);
        JavacTask task = (JavacTask) javac.getTask(null, files, null, List.of("-proc:none"), null,
            files.getJavaFileObjects(new File(SOURCE)));
        CompilationUnitTree unit = task.parse().iterator().next();
        task.analyze();
        LanguageTest test = new LanguageTest(Trees.instance(task), unit);
        Due.due("package lines", unit.getPackageName() == null ? 0 : 1, 0);
        Due.due("imports", unit.getImports().size(), 0);
        Due.due("classes at the top", unit.getTypeDecls().size(), 1);
        test.scan(unit, null);
        Due.due("classes, twelve at most: more", Math.max(12, test.classes), 12);
        Due.due("methods of the face", test.faceFound.size(), FACE.size());
        test.calls.keySet().forEach(method -> {
            int depth = test.depth(method, new HashSet<>());
            Due.due("calls from " + method + ", eight deep at most", Math.max(8, depth), 8);
        });
        Due.close();
    }

    private int depth(Element method, Set<Element> open) {
        int deepest = 0;
        if (open.add(method)) {
            for (Element called : calls.getOrDefault(method, Set.of())) {
                boolean mayCallItself = called.getModifiers().containsAll(Set.of(Modifier.PRIVATE, Modifier.STATIC));
                if (open.contains(called) && !mayCallItself) {
                    Due.due(called + " calls itself", 1, 0);
                }
                deepest = Math.max(deepest, open.contains(called) ? 0 : depth(called, open));
            }
            open.remove(method);
        }
        return 1 + deepest;
    }

    private void none(String what) {
        TreePath path = getCurrentPath();
        long line = unit.getLineMap().getLineNumber(trees.getSourcePositions().getStartPosition(unit, path.getLeaf()));
        Due.due(what + " in line " + line, 1, 0);
    }

    private Element here() {
        return trees.getElement(getCurrentPath());
    }

    /** Numbers, own classes, rows of either, and rows of rows of numbers. */
    private static boolean isAllowed(TypeMirror type) {
        if (type.getKind() == TypeKind.ARRAY) {
            TypeMirror item = ((ArrayType) type).getComponentType();
            boolean isRow = item.getKind() == TypeKind.ARRAY;
            return isRow ? ((ArrayType) item).getComponentType().getKind().isPrimitive() : isAllowed(item);
        }
        return type.getKind().isPrimitive() || type.toString().startsWith("WarnLines");
    }

    private static boolean isWrittenOut(Element itself, Tree begun) {
        if (itself.asType().getKind() != TypeKind.ARRAY) {
            return itself.asType().getKind().isPrimitive();
        }
        String type = itself.asType().toString();
        return Set.of("int[]", "long[]", "char[]", "byte[]").contains(type)
            && begun instanceof NewArrayTree && ((NewArrayTree) begun).getInitializers() != null;
    }

    /** A static row stays as it was written out. */
    private void mayChange(Tree changed) {
        if (changed instanceof ArrayAccessTree) {
            Tree row = ((ArrayAccessTree) changed).getExpression();
            Element its = trees.getElement(new TreePath(getCurrentPath(), row));
            if (its != null && its.getModifiers().contains(Modifier.STATIC)) {
                none("a static row that is changed");
            }
        }
    }

    private boolean isOuter(Element e) {
        return e.getSimpleName().contentEquals("WarnLines");
    }

    @Override
    public Void visitClass(ClassTree tree, Void none) {
        classes++;
        Element itself = here();
        Set<Modifier> modifiers = itself.getModifiers();
        if (isOuter(itself)) {
            Due.due("public and final", modifiers.containsAll(Set.of(Modifier.PUBLIC, Modifier.FINAL)) ? 1 : 0, 1);
        } else {
            boolean hidden = !modifiers.contains(Modifier.PUBLIC) && !modifiers.contains(Modifier.PROTECTED);
            boolean inside = itself.getEnclosingElement().getKind() == ElementKind.CLASS;
            if (!hidden || !inside || !modifiers.contains(Modifier.STATIC)) {
                none("a class that is not static and hidden");
            }
        }
        long fields = itself.getEnclosedElements().stream()
            .filter(e -> e.getKind() == ElementKind.FIELD && !e.getModifiers().contains(Modifier.STATIC)).count();
        Due.due("fields of " + itself + ", twenty at most: more", Math.max(20, fields), 20);
        return super.visitClass(tree, none);
    }

    @Override
    public Void visitVariable(VariableTree tree, Void none) {
        Element itself = here();
        if (!isAllowed(itself.asType())) {
            none("something of type " + itself.asType());
        }
        if (itself.getKind() == ElementKind.FIELD) {
            boolean isStatic = itself.getModifiers().contains(Modifier.STATIC);
            if (isStatic && !itself.getModifiers().contains(Modifier.FINAL)) {
                none("a static field that is not final");
            }
            if (isStatic && !isWrittenOut(itself, tree.getInitializer())) {
                none("a static field that is not written out");
            }
            if (isOuter(itself.getEnclosingElement()) && !itself.getModifiers().contains(Modifier.PRIVATE)
                && !(isStatic && CONSTANTS.contains(itself.getSimpleName().toString()))) {
                none("a field that is not private");
            }
        }
        return super.visitVariable(tree, none);
    }

    @Override
    public Void visitMethod(MethodTree tree, Void none) {
        Element itself = here();
        String name = tree.getName().toString();
        long from = trees.getSourcePositions().getStartPosition(unit, tree);
        long to = trees.getSourcePositions().getEndPosition(unit, tree);
        if (to > from && unit.getLineMap().getLineNumber(to) - unit.getLineMap().getLineNumber(from) >= 60) {
            none("a method of more than sixty lines");
        }
        if (tree.getParameters().size() > 7) {
            none("a method of more than seven parameters");
        }
        boolean isPublic = itself.getModifiers().contains(Modifier.PUBLIC);
        boolean isOfFace = isOuter(itself.getEnclosingElement()) && isPublic;
        if (isOfFace && FACE.contains(name)) {
            faceFound.add(name);
        } else if (FACE.contains(name)) {
            none("the name of a public method on another");
        } else if (isOuter(itself.getEnclosingElement()) && !itself.getModifiers().contains(Modifier.PRIVATE)
            && !name.equals("<init>")) {
            none("a method beside the face that is not private");
        }
        calls.putIfAbsent(itself, new HashSet<>());
        return super.visitMethod(tree, none);
    }

    @Override
    public Void visitMethodInvocation(MethodInvocationTree tree, Void none) {
        Element called = here();
        TreePath path = getCurrentPath();
        while (path != null && !(path.getLeaf() instanceof MethodTree)) {
            path = path.getParentPath();
        }
        String whole = called.getEnclosingElement() + "." + called.getSimpleName();
        boolean ofSource = whole.startsWith("WarnLines");
        boolean isConstructor = called.getKind() == ElementKind.CONSTRUCTOR;
        if (ofSource && path != null) {
            calls.computeIfAbsent(trees.getElement(path), key -> new HashSet<>()).add(called);
        } else if (!ofSource && !isConstructor && !LIBRARY.contains(whole)) {
            none("a call of " + whole);
        }
        return super.visitMethodInvocation(tree, none);
    }

    @Override
    public Void visitNewClass(NewClassTree tree, Void none) {
        if (tree.getClassBody() != null) {
            none("an anonymous class");
        }
        return super.visitNewClass(tree, none);
    }

    @Override
    public Void visitLiteral(LiteralTree tree, Void none) {
        if (tree.getValue() instanceof String) {
            none("a text");
        }
        return super.visitLiteral(tree, none);
    }

    @Override
    public Void visitAssignment(AssignmentTree tree, Void none) {
        mayChange(tree.getVariable());
        return super.visitAssignment(tree, none);
    }

    @Override
    public Void visitCompoundAssignment(CompoundAssignmentTree tree, Void none) {
        mayChange(tree.getVariable());
        return super.visitCompoundAssignment(tree, none);
    }

    @Override
    public Void visitUnary(UnaryTree tree, Void none) {
        boolean changes = tree.getKind().toString().endsWith("CREMENT");
        if (changes) {
            mayChange(tree.getExpression());
        }
        return super.visitUnary(tree, none);
    }

    @Override
    public Void visitTypeCast(TypeCastTree tree, Void none) {
        if (!trees.getTypeMirror(new TreePath(getCurrentPath(), tree.getType())).getKind().isPrimitive()) {
            none("a cast of objects");
        }
        return super.visitTypeCast(tree, none);
    }

    @Override
    public Void visitInstanceOf(InstanceOfTree tree, Void none) {
        none("instanceof");
        return super.visitInstanceOf(tree, none);
    }

    @Override
    public Void visitThrow(ThrowTree tree, Void none) {
        none("throw");
        return super.visitThrow(tree, none);
    }

    @Override
    public Void visitTry(TryTree tree, Void none) {
        none("try");
        return super.visitTry(tree, none);
    }

    @Override
    public Void visitSynchronized(SynchronizedTree tree, Void none) {
        none("synchronized");
        return super.visitSynchronized(tree, none);
    }

    @Override
    public Void visitAssert(AssertTree tree, Void none) {
        none("assert");
        return super.visitAssert(tree, none);
    }

    @Override
    public Void visitLambdaExpression(LambdaExpressionTree tree, Void none) {
        none("a lambda");
        return super.visitLambdaExpression(tree, none);
    }

    @Override
    public Void visitMemberReference(MemberReferenceTree tree, Void none) {
        none("a method reference");
        return super.visitMemberReference(tree, none);
    }
}
