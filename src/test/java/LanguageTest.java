import com.sun.source.tree.*;
import com.sun.source.util.JavacTask;
import com.sun.source.util.TreePath;
import com.sun.source.util.TreePathScanner;
import com.sun.source.util.Trees;
import java.io.IOException;
import java.nio.file.Path;
import java.util.ArrayDeque;
import java.util.Deque;
import java.util.List;
import java.util.Map;
import java.util.Set;
import java.util.TreeMap;
import java.util.TreeSet;
import javax.lang.model.element.Element;
import javax.lang.model.element.ElementKind;
import javax.lang.model.element.ExecutableElement;
import javax.lang.model.element.Modifier;
import javax.lang.model.element.TypeElement;
import javax.lang.model.element.VariableElement;
import javax.lang.model.type.ArrayType;
import javax.lang.model.type.DeclaredType;
import javax.lang.model.type.TypeKind;
import javax.lang.model.type.TypeMirror;
import javax.tools.JavaCompiler;
import javax.tools.StandardJavaFileManager;
import javax.tools.ToolProvider;

/**
 * Rules of ../shared/LANGUAGE.md, looked at in the tree that the compiler makes of the class. What the
 * class does not need is ruled out here altogether (texts, lists, recursion, objects made by calls), even
 * where LANGUAGE.md would allow it. Told: the source's path.
 */
public final class LanguageTest extends TreePathScanner<Void, Void> {
    private static final int LINES_OF_METHOD = 60;
    private static final int PARAMETERS = 7;
    private static final int CLASSES = 12;
    private static final int FIELDS = 20;
    private static final int CALLS_DEEP = 8;
    private static final Set<String> LIBRARY = Set.of(
        "java.lang.Math.max", "java.lang.Math.min", "java.lang.Math.abs", "java.lang.Long.bitCount",
        "java.lang.Integer.bitCount", "java.lang.System.arraycopy", "java.util.Arrays.fill");
    private static final Set<Tree.Kind> RULED_OUT = Set.of(
        Tree.Kind.THROW, Tree.Kind.TRY, Tree.Kind.CATCH, Tree.Kind.SYNCHRONIZED, Tree.Kind.ASSERT,
        Tree.Kind.LAMBDA_EXPRESSION, Tree.Kind.MEMBER_REFERENCE, Tree.Kind.IMPORT, Tree.Kind.PACKAGE,
        Tree.Kind.STRING_LITERAL, Tree.Kind.FLOAT_LITERAL, Tree.Kind.DOUBLE_LITERAL, Tree.Kind.NULL_LITERAL,
        Tree.Kind.INSTANCE_OF, Tree.Kind.ANNOTATION);

    private final Due due = new Due();
    private final Trees trees;
    private final CompilationUnitTree unit;
    private final Map<String, Set<String>> calledBy = new TreeMap<>();
    private final Map<String, Integer> depths = new TreeMap<>();
    private final Deque<String> open = new ArrayDeque<>();
    private int classes;

    private LanguageTest(Trees trees, CompilationUnitTree unit) {
        this.trees = trees;
        this.unit = unit;
    }

    public static void main(String[] args) throws IOException {
        String path = args.length > 0 ? args[0] : "src/main/java/FallingRules.java";
        JavaCompiler compiler = ToolProvider.getSystemJavaCompiler();
        try (StandardJavaFileManager files = compiler.getStandardFileManager(null, null, null)) {
            JavacTask task = (JavacTask) compiler.getTask(
                null, files, null, List.of("-proc:none"), null, files.getJavaFileObjects(Path.of(path)));
            CompilationUnitTree unit = task.parse().iterator().next();
            task.analyze();
            new LanguageTest(Trees.instance(task), unit).look();
        }
    }

    private void look() {
        scan(unit, null);
        due.holds("rule 11: classes: " + classes, classes <= CLASSES);
        due.holds("the class was looked at: methods with calls: " + calledBy.size(), calledBy.size() > 20);
        for (String method : List.copyOf(calledBy.keySet())) {
            int depth = depthOf(method);
            due.holds("rule 11: calls from " + method + " go deep: " + depth, depth <= CALLS_DEEP);
        }
        due.end();
    }

    /** How many calls stand open at once, the method's own and the library's too. */
    private int depthOf(String method) {
        if (depths.containsKey(method)) {
            return depths.get(method);
        }
        if (open.contains(method)) {
            due.holds("no recursion: " + method, false);
            return 0;
        }
        open.push(method);
        int deepest = 0;
        for (String called : calledBy.getOrDefault(method, Set.of())) {
            deepest = Math.max(deepest, depthOf(called));
        }
        open.pop();
        depths.put(method, deepest + 1);
        return deepest + 1;
    }

    @Override public Void scan(Tree tree, Void none) {
        if (tree != null && RULED_OUT.contains(tree.getKind())) {
            holds("rules 2, 3, 4, 6: no " + tree.getKind(), tree, false);
        }
        return super.scan(tree, none);
    }

    private void holds(String what, Tree tree, boolean so) {
        long line = unit.getLineMap().getLineNumber(trees.getSourcePositions().getStartPosition(unit, tree));
        due.holds("line " + line + ": " + what, so);
    }

    private Element elementHere() {
        return trees.getElement(getCurrentPath());
    }

    @Override public Void visitClass(ClassTree tree, Void none) {
        classes++;
        Element element = elementHere();
        boolean outermost = getCurrentPath().getParentPath().getLeaf() instanceof CompilationUnitTree;
        boolean member = element.getEnclosingElement().getKind().isClass();
        holds("rule 2: a static class of its own: " + tree.getSimpleName(), tree,
            outermost || member && element.getModifiers().contains(Modifier.STATIC));
        holds("rules 1, 12: final: " + tree.getSimpleName(), tree, element.getModifiers().contains(Modifier.FINAL));
        int fields = 0;
        for (Tree each : tree.getMembers()) {
            holds("rule 5: no initialiser block", each, each.getKind() != Tree.Kind.BLOCK);
            if (each instanceof VariableTree field && !field.getModifiers().getFlags().contains(Modifier.STATIC)) {
                fields++;
            }
        }
        holds("rule 11: fields: " + fields, tree, fields <= FIELDS);
        return super.visitClass(tree, none);
    }

    @Override public Void visitMethod(MethodTree tree, Void none) {
        holds("rule 11: parameters of " + tree.getName(), tree, tree.getParameters().size() <= PARAMETERS);
        long lines = tree.toString().lines().filter(line -> !line.isBlank()).count();
        holds("rule 11: lines of " + tree.getName() + ": " + lines, tree, lines <= LINES_OF_METHOD);
        return super.visitMethod(tree, none);
    }

    @Override public Void visitVariable(VariableTree tree, Void none) {
        VariableElement element = (VariableElement) elementHere();
        holds("rule 3: type of " + tree.getName(), tree, mayBeHeld(element.asType()));
        Set<Modifier> flags = element.getModifiers();
        if (flags.contains(Modifier.STATIC)) {
            holds("rule 5: a constant: " + tree.getName(), tree,
                flags.contains(Modifier.FINAL) && element.getConstantValue() != null);
        }
        if (element.getKind() == ElementKind.FIELD && tree.getInitializer() != null) {
            // What a field begins with is done by the constructor.
            String constructor = element.getEnclosingElement() + ".<init>";
            new TreePathScanner<Void, Void>() {
                @Override public Void visitNewClass(NewClassTree made, Void nothing) {
                    note(constructor, (ExecutableElement) trees.getElement(getCurrentPath()));
                    return super.visitNewClass(made, nothing);
                }
            }.scan(getCurrentPath(), null);
        }
        return super.visitVariable(tree, none);
    }

    private static boolean mayBeHeld(TypeMirror type) {
        if (type instanceof ArrayType array) {
            TypeMirror each = array.getComponentType();
            return each.getKind() != TypeKind.ARRAY && mayBeHeld(each);
        }
        Set<TypeKind> numbers = Set.of(TypeKind.INT, TypeKind.LONG, TypeKind.BOOLEAN);
        return numbers.contains(type.getKind()) || type instanceof DeclaredType own && isOwn(own.asElement());
    }

    private static boolean isOwn(Element element) {
        for (Element each = element; each != null; each = each.getEnclosingElement()) {
            if (each instanceof TypeElement type && type.getQualifiedName().contentEquals("FallingRules")) {
                return true;
            }
        }
        return false;
    }

    private MethodTree methodHere() {
        for (TreePath path = getCurrentPath(); path != null; path = path.getParentPath()) {
            if (path.getLeaf() instanceof MethodTree method) {
                return method;
            }
        }
        return null;
    }

    private void note(String caller, ExecutableElement called) {
        String name = called.getEnclosingElement() + "." + called.getSimpleName();
        calledBy.computeIfAbsent(caller, key -> new TreeSet<>()).add(name);
    }

    private void noteFromHere(ExecutableElement called) {
        MethodTree caller = methodHere();
        if (caller != null) {
            Element inside = trees.getElement(trees.getPath(unit, caller)).getEnclosingElement();
            note(inside + "." + caller.getName(), called);
        }
    }

    @Override public Void visitMethodInvocation(MethodInvocationTree tree, Void none) {
        ExecutableElement called = (ExecutableElement) elementHere();
        String name = called.getEnclosingElement() + "." + called.getSimpleName();
        boolean aboveAll = name.equals("java.lang.Object.<init>");
        holds("rule 4: " + name, tree, aboveAll || isOwn(called) || LIBRARY.contains(name));
        if (!aboveAll) {
            noteFromHere(called);
        }
        return super.visitMethodInvocation(tree, none);
    }

    @Override public Void visitNewClass(NewClassTree tree, Void none) {
        holds("rule 2: no class without a name", tree, tree.getClassBody() == null);
        holds("rule 4: an own class is made", tree, isOwn(elementHere()));
        holdsMadeOnce(tree);
        noteFromHere((ExecutableElement) elementHere());
        return super.visitNewClass(tree, none);
    }

    @Override public Void visitNewArray(NewArrayTree tree, Void none) {
        holdsMadeOnce(tree);
        return super.visitNewArray(tree, none);
    }

    private void holdsMadeOnce(Tree tree) {
        MethodTree inside = methodHere();
        holds("rule 12: made in constructors alone", tree,
            inside == null || inside.getName().contentEquals("<init>"));
    }

    @Override public Void visitForLoop(ForLoopTree tree, Void none) {
        holds("rule 9: the loop tells its end", tree, tree.getCondition() != null && !tree.getUpdate().isEmpty());
        return super.visitForLoop(tree, none);
    }

    @Override public Void visitWhileLoop(WhileLoopTree tree, Void none) {
        String condition = tree.getCondition().toString();
        holds("rule 9: the loop tells its end", tree, condition.contains("<") || condition.contains(">"));
        return super.visitWhileLoop(tree, none);
    }

    @Override public Void visitDoWhileLoop(DoWhileLoopTree tree, Void none) {
        holds("rule 9: no do", tree, false);
        return super.visitDoWhileLoop(tree, none);
    }

    @Override public Void visitBinary(BinaryTree tree, Void none) {
        boolean divides = tree.getKind() == Tree.Kind.DIVIDE || tree.getKind() == Tree.Kind.REMAINDER;
        holdsDivisor(tree, divides, tree.getRightOperand());
        return super.visitBinary(tree, none);
    }

    @Override public Void visitCompoundAssignment(CompoundAssignmentTree tree, Void none) {
        boolean divides =
            tree.getKind() == Tree.Kind.DIVIDE_ASSIGNMENT || tree.getKind() == Tree.Kind.REMAINDER_ASSIGNMENT;
        holdsDivisor(tree, divides, tree.getExpression());
        return super.visitCompoundAssignment(tree, none);
    }

    private void holdsDivisor(Tree tree, boolean divides, ExpressionTree divisor) {
        if (divides) {
            String told = divisor.toString();
            holds("rule 7: a constant divides: " + told, tree, told.equals("10") || told.equals("PRIME"));
        }
    }
}
