import com.sun.source.tree.ArrayAccessTree;
import com.sun.source.tree.BinaryTree;
import com.sun.source.tree.ClassTree;
import com.sun.source.tree.CompilationUnitTree;
import com.sun.source.tree.CompoundAssignmentTree;
import com.sun.source.tree.ConditionalExpressionTree;
import com.sun.source.tree.ExpressionTree;
import com.sun.source.tree.LiteralTree;
import com.sun.source.tree.MethodInvocationTree;
import com.sun.source.tree.MethodTree;
import com.sun.source.tree.NewArrayTree;
import com.sun.source.tree.NewClassTree;
import com.sun.source.tree.Tree;
import com.sun.source.tree.TypeCastTree;
import com.sun.source.tree.VariableTree;
import com.sun.source.util.JavacTask;
import com.sun.source.util.TreePath;
import com.sun.source.util.TreePathScanner;
import com.sun.source.util.Trees;
import java.io.IOException;
import java.nio.file.Path;
import java.util.HashMap;
import java.util.HashSet;
import java.util.Map;
import java.util.Set;
import java.util.TreeSet;
import javax.lang.model.element.Element;
import javax.lang.model.element.ElementKind;
import javax.lang.model.element.ExecutableElement;
import javax.lang.model.element.Modifier;
import javax.lang.model.element.VariableElement;
import javax.lang.model.type.TypeKind;
import javax.tools.JavaCompiler;
import javax.tools.StandardJavaFileManager;
import javax.tools.ToolProvider;

/**
 * LANGUAGE.md's rules that the source's own tree tells: sizes, what is called and how deep, what is made where, and
 * that every index and divisor is looked at first.
 */
public final class LanguageTest extends TreePathScanner<Void, Void> {
    private static final int MOST_CLASSES = 12;
    private static final int MOST_FIELDS = 20;
    private static final int MOST_PARAMETERS = 7;
    private static final int MOST_LINES = 60;
    private static final int MOST_CALLS_DEEP = 8;
    private static final Set<String> LIBRARY = Set.of("Math.max", "Math.min", "Long.bitCount", "System.arraycopy");
    private static final Set<Tree.Kind> FORBIDDEN = Set.of(Tree.Kind.THROW, Tree.Kind.TRY, Tree.Kind.SYNCHRONIZED,
        Tree.Kind.ASSERT, Tree.Kind.LAMBDA_EXPRESSION, Tree.Kind.MEMBER_REFERENCE, Tree.Kind.IMPORT,
        Tree.Kind.ANNOTATION);
    private static final Set<TypeKind> FIXED_TYPES = Set.of(TypeKind.INT, TypeKind.LONG, TypeKind.BOOLEAN,
        TypeKind.CHAR);
    private static final Check check = new Check();

    private final CompilationUnitTree unit;
    private final Trees trees;
    private final Map<Element, Set<Element>> calls = new HashMap<>();
    private final Map<Element, Integer> depths = new HashMap<>();
    private final Set<Element> open = new HashSet<>();
    private int classes = 0;

    private LanguageTest(CompilationUnitTree unit, Trees trees) {
        this.unit = unit;
        this.trees = trees;
    }

    public static void main(String[] args) throws IOException {
        JavaCompiler compiler = ToolProvider.getSystemJavaCompiler();
        StandardJavaFileManager files = compiler.getStandardFileManager(null, null, null);
        JavacTask task = (JavacTask) compiler.getTask(null, files, null, null, null,
            files.getJavaFileObjects(Path.of("src/main/java/PuppetTurns.java")));
        CompilationUnitTree unit = task.parse().iterator().next();
        task.analyze();
        LanguageTest test = new LanguageTest(unit, Trees.instance(task));
        test.scan(unit, null);
        test.due("classes in the file: " + test.classes, test.classes <= MOST_CLASSES);
        test.callsAreShallow();
        files.close();
        check.end();
    }

    private void due(String rule, boolean kept) {
        check.due(rule, kept ? 1 : 0, 1);
    }

    private String where(Tree tree) {
        long start = trees.getSourcePositions().getStartPosition(unit, tree);
        return "line " + unit.getLineMap().getLineNumber(start) + ": ";
    }

    private Element element(Tree tree) {
        return trees.getElement(TreePath.getPath(unit, tree));
    }

    /** The method or constructor, or the field that is given its first value, around the place that is read now. */
    private Element around() {
        for (TreePath path = getCurrentPath(); path != null; path = path.getParentPath()) {
            Element found = trees.getElement(path);
            boolean isField = found != null && found.getKind() == ElementKind.FIELD
                && path.getLeaf().getKind() == Tree.Kind.VARIABLE;
            if (path.getLeaf().getKind() == Tree.Kind.METHOD || isField) {
                return found;
            }
        }
        return null;
    }

    private boolean isInside(String... names) {
        Element caller = around();
        String owner = caller == null ? "" : caller.getEnclosingElement().getSimpleName().toString();
        return Set.of(names).contains(owner);
    }

    @Override
    public Void scan(Tree tree, Void nothing) {
        if (tree != null && FORBIDDEN.contains(tree.getKind())) {
            due(where(tree) + "no " + tree.getKind(), false);
        }
        return super.scan(tree, nothing);
    }

    @Override
    public Void visitClass(ClassTree tree, Void nothing) {
        classes++;
        int fields = 0;
        for (Tree member : tree.getMembers()) {
            due(where(member) + "no initialiser block", member.getKind() != Tree.Kind.BLOCK);
            if (member instanceof VariableTree) {
                fields += isFixed((VariableTree) member) ? 0 : 1;
            }
        }
        due(where(tree) + fields + " fields in " + tree.getSimpleName(), fields <= MOST_FIELDS);
        Set<Modifier> modifiers = tree.getModifiers().getFlags();
        due(where(tree) + "a final class", modifiers.contains(Modifier.FINAL));
        due(where(tree) + "a static class inside", classes == 1 || modifiers.contains(Modifier.STATIC));
        return super.visitClass(tree, nothing);
    }

    private boolean isFixed(VariableTree field) {
        VariableElement found = (VariableElement) element(field);
        if (!found.getModifiers().contains(Modifier.STATIC)) {
            return false;
        }
        due(where(field) + "a static field is a constant", found.getConstantValue() != null
            && FIXED_TYPES.contains(found.asType().getKind()));
        return true;
    }

    @Override
    public Void visitMethod(MethodTree tree, Void nothing) {
        due(where(tree) + "parameters of " + tree.getName(), tree.getParameters().size() <= MOST_PARAMETERS);
        long start = trees.getSourcePositions().getStartPosition(unit, tree);
        long end = trees.getSourcePositions().getEndPosition(unit, tree);
        long lines = unit.getLineMap().getLineNumber(end) - unit.getLineMap().getLineNumber(start) + 1;
        due(where(tree) + lines + " lines of " + tree.getName(), lines <= MOST_LINES);
        return super.visitMethod(tree, nothing);
    }

    @Override
    public Void visitMethodInvocation(MethodInvocationTree tree, Void nothing) {
        Element called = element(tree);
        Element owner = called.getEnclosingElement();
        String name = owner.getSimpleName() + "." + called.getSimpleName();
        if (isOwn(called)) {
            calls.computeIfAbsent(around(), caller -> new HashSet<>()).add(called);
        } else {
            due(where(tree) + "the library's " + name, LIBRARY.contains(name) || name.equals("Object.<init>"));
        }
        return super.visitMethodInvocation(tree, nothing);
    }

    private boolean isOwn(Element one) {
        for (Element owner = one; owner != null; owner = owner.getEnclosingElement()) {
            if (owner.getSimpleName().contentEquals("PuppetTurns")) {
                return true;
            }
        }
        return false;
    }

    @Override
    public Void visitNewClass(NewClassTree tree, Void nothing) {
        Element made = element(tree);
        due(where(tree) + "only own classes", isOwn(made));
        due(where(tree) + "no class without a name", tree.getClassBody() == null);
        Element caller = around();
        due(where(tree) + "calls make no objects",
            caller.getKind() == ElementKind.CONSTRUCTOR || caller.getKind() == ElementKind.FIELD);
        calls.computeIfAbsent(caller, one -> new HashSet<>()).add(made);
        return super.visitNewClass(tree, nothing);
    }

    @Override
    public Void visitNewArray(NewArrayTree tree, Void nothing) {
        Element caller = around();
        due(where(tree) + "calls make no arrays",
            caller.getKind() == ElementKind.CONSTRUCTOR || caller.getKind() == ElementKind.FIELD);
        due(where(tree) + "arrays stand in Cells and History alone", isInside("Cells", "History"));
        return super.visitNewArray(tree, nothing);
    }

    /** An index stands behind a test of both its bounds, or in a for whose own counter it is. */
    @Override
    public Void visitArrayAccess(ArrayAccessTree tree, Void nothing) {
        String index = tree.getIndex().toString();
        String array = tree.getExpression().toString();
        String test = index + " >= 0 && " + index + " < " + array + ".length";
        String counted = "int " + index + " = 0; " + index + " < " + array + ".length";
        boolean seen = false;
        for (TreePath path = getCurrentPath(); path != null; path = path.getParentPath()) {
            String around = path.getLeaf().toString();
            switch (path.getLeaf().getKind()) {
                case IF:
                case CONDITIONAL_EXPRESSION:
                    seen |= around.contains(test);
                    break;
                case FOR_LOOP:
                    seen |= around.startsWith("for (" + counted);
                    break;
                default:
                    break;
            }
        }
        due(where(tree) + "the index of " + tree + " is looked at first", seen);
        return super.visitArrayAccess(tree, nothing);
    }

    @Override
    public Void visitBinary(BinaryTree tree, Void nothing) {
        if (tree.getKind() == Tree.Kind.DIVIDE || tree.getKind() == Tree.Kind.REMAINDER) {
            due(where(tree) + "the divisor of " + tree + " is looked at first", isSafe(tree.getRightOperand()));
        }
        return super.visitBinary(tree, nothing);
    }

    private boolean isSafe(ExpressionTree divisor) {
        Element named = element(divisor);
        if (divisor instanceof LiteralTree) {
            return !divisor.toString().equals("0");
        }
        if (named instanceof VariableElement && ((VariableElement) named).getConstantValue() != null) {
            return !((VariableElement) named).getConstantValue().equals(0);
        }
        for (TreePath path = getCurrentPath(); path != null; path = path.getParentPath()) {
            if (path.getLeaf() instanceof ConditionalExpressionTree) {
                ConditionalExpressionTree choice = (ConditionalExpressionTree) path.getLeaf();
                return choice.getCondition().toString().equals("(" + divisor + " > 0)")
                    || choice.getCondition().toString().equals(divisor + " > 0");
            }
        }
        return false;
    }

    @Override
    public Void visitCompoundAssignment(CompoundAssignmentTree tree, Void nothing) {
        due(where(tree) + "no division that is an assignment", tree.getKind() != Tree.Kind.DIVIDE_ASSIGNMENT
            && tree.getKind() != Tree.Kind.REMAINDER_ASSIGNMENT);
        return super.visitCompoundAssignment(tree, nothing);
    }

    @Override
    public Void visitTypeCast(TypeCastTree tree, Void nothing) {
        due(where(tree) + "casts are of numbers", tree.getType().getKind() == Tree.Kind.PRIMITIVE_TYPE);
        return super.visitTypeCast(tree, nothing);
    }

    /** The longest row of calls from each method, and that none leads back to itself. */
    private void callsAreShallow() {
        Set<String> deepest = new TreeSet<>();
        int most = 0;
        for (Element caller : Set.copyOf(calls.keySet())) {
            int depth = depth(caller);
            most = Math.max(most, depth);
            if (depth > MOST_CALLS_DEEP) {
                deepest.add(caller.toString());
            }
        }
        System.out.println("calls go at most " + most + " deep");
        due("calls go " + most + " deep in " + deepest, most <= MOST_CALLS_DEEP && most > 1);
    }

    private int depth(Element method) {
        if (depths.containsKey(method)) {
            return depths.get(method);
        }
        if (!open.add(method)) {
            due(method + " calls itself", false);
            return 0;
        }
        int most = 0;
        for (Element called : calls.getOrDefault(method, Set.of())) {
            most = Math.max(most, depth(called));
        }
        // What a constructor's fields are first given is made by its calls as well.
        if (method.getKind() == ElementKind.CONSTRUCTOR && method instanceof ExecutableElement) {
            for (Element member : method.getEnclosingElement().getEnclosedElements()) {
                most = Math.max(most, member.getKind() == ElementKind.FIELD ? depth(member) - 1 : 0);
            }
        }
        open.remove(method);
        depths.put(method, most + 1);
        return most + 1;
    }
}
