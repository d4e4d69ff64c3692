import com.sun.source.tree.ArrayTypeTree;
import com.sun.source.tree.AssignmentTree;
import com.sun.source.tree.BinaryTree;
import com.sun.source.tree.BlockTree;
import com.sun.source.tree.ClassTree;
import com.sun.source.tree.CompilationUnitTree;
import com.sun.source.tree.CompoundAssignmentTree;
import com.sun.source.tree.ConditionalExpressionTree;
import com.sun.source.tree.DoWhileLoopTree;
import com.sun.source.tree.ExpressionTree;
import com.sun.source.tree.ForLoopTree;
import com.sun.source.tree.IfTree;
import com.sun.source.tree.ImportTree;
import com.sun.source.tree.LiteralTree;
import com.sun.source.tree.MethodInvocationTree;
import com.sun.source.tree.MethodTree;
import com.sun.source.tree.NewArrayTree;
import com.sun.source.tree.NewClassTree;
import com.sun.source.tree.ParenthesizedTree;
import com.sun.source.tree.Tree;
import com.sun.source.tree.TypeCastTree;
import com.sun.source.tree.UnaryTree;
import com.sun.source.tree.VariableTree;
import com.sun.source.tree.WhileLoopTree;
import com.sun.source.util.JavacTask;
import com.sun.source.util.TreePath;
import com.sun.source.util.TreePathScanner;
import com.sun.source.util.Trees;
import java.io.IOException;
import java.net.URI;
import java.util.ArrayList;
import java.util.EnumSet;
import java.util.HashMap;
import java.util.HashSet;
import java.util.LinkedHashSet;
import java.util.List;
import java.util.Map;
import java.util.Set;
import javax.lang.model.element.Element;
import javax.lang.model.element.ElementKind;
import javax.lang.model.element.Modifier;
import javax.lang.model.element.VariableElement;
import javax.tools.JavaFileObject;
import javax.tools.SimpleJavaFileObject;
import javax.tools.ToolProvider;

/**
 * The rules of ../shared/LANGUAGE.md that can be seen from what the compiler reads. It is narrower than
 * the rules where QuietDuty needs no more: objects by constructors alone, no recursion, loops that count.
 */
final class Rules extends TreePathScanner<Void, Void> {
    private static final int MOST_LINES = 60, MOST_PARAMETERS = 7, MOST_CLASSES = 12, MOST_FIELDS = 20, MOST_DEEP = 8;
    private static final Set<Tree.Kind> NOT_ALLOWED = EnumSet.of(Tree.Kind.THROW, Tree.Kind.TRY, Tree.Kind.CATCH,
        Tree.Kind.SYNCHRONIZED, Tree.Kind.ASSERT, Tree.Kind.LAMBDA_EXPRESSION, Tree.Kind.MEMBER_REFERENCE,
        Tree.Kind.ANNOTATION, Tree.Kind.YIELD, Tree.Kind.DOUBLE_LITERAL, Tree.Kind.FLOAT_LITERAL);
    private static final Set<String> NUMBERS = Set.of("int", "long", "short", "byte", "char", "boolean");
    private static final Set<String> IMPORTS =
        Set.of("java.util.Arrays", "java.util.ArrayList", "java.util.List", "java.util.Iterator");
    private static final Map<String, Set<String>> LIBRARY = Map.of(
        "java.lang.System", Set.of("arraycopy"),
        "java.util.Arrays", Set.of("copyOf", "copyOfRange", "fill"),
        "java.lang.Math", Set.of("max", "min", "abs", "floorDiv", "floorMod"),
        "java.lang.Integer", Set.of("compare", "max", "min", "bitCount"),
        "java.lang.Long", Set.of("compare", "max", "min", "bitCount"),
        "java.lang.Object", Set.of("<init>"));

    private final Set<String> broken = new LinkedHashSet<>();
    private final Map<Element, Set<Element>> calls = new HashMap<>();
    private final Set<Element> own = new HashSet<>();
    private final Set<String> ownClasses = new HashSet<>();
    private final Set<String> publicNames = new HashSet<>();
    private final Set<String> privateNames = new HashSet<>();
    private final Trees trees;
    private final CompilationUnitTree unit;

    /** What of a source breaks a rule, each with the rule's number first. */
    static Set<String> broken(String source) throws IOException {
        JavaFileObject file = new SimpleJavaFileObject(URI.create("string:///QuietDuty.java"), JavaFileObject.Kind.SOURCE) {
            @Override public CharSequence getCharContent(boolean ignoreErrors) {
                return source;
            }
        };
        JavacTask task = (JavacTask) ToolProvider.getSystemJavaCompiler()
            .getTask(null, null, d -> { }, List.of("-proc:none"), null, List.of(file));
        CompilationUnitTree unit = task.parse().iterator().next();
        task.analyze();
        Rules rules = new Rules(Trees.instance(task), unit);
        rules.look();
        return rules.broken;
    }

    private Rules(Trees trees, CompilationUnitTree unit) {
        this.trees = trees;
        this.unit = unit;
    }

    private void look() {
        new TreePathScanner<Void, Void>() {
            @Override public Void visitClass(ClassTree tree, Void v) {
                own.add(trees.getElement(getCurrentPath()));
                ownClasses.add(tree.getSimpleName().toString());
                return super.visitClass(tree, v);
            }
        }.scan(unit, null);
        scan(unit, null);
        privateNames.retainAll(publicNames);
        check(privateNames.isEmpty(), 1, "private methods with the name of a public one: " + privateNames);
        check(ownClasses.size() <= MOST_CLASSES, 11, ownClasses.size() + " classes");
        for (Element method : List.copyOf(calls.keySet())) {
            int deep = depth(method, new ArrayList<>());
            check(deep <= MOST_DEEP, 11, method + " goes " + deep + " deep");
        }
    }

    private void check(boolean holds, int rule, String told) {
        if (!holds) {
            broken.add(rule + ": " + told);
        }
    }

    private String at(Tree tree) {
        long line = unit.getLineMap().getLineNumber(trees.getSourcePositions().getStartPosition(unit, tree));
        return "line " + line + ": " + tree.toString().strip().lines().findFirst().orElse("");
    }

    @Override public Void scan(Tree tree, Void v) {
        if (tree != null) {
            check(!NOT_ALLOWED.contains(tree.getKind()), 6, at(tree));
        }
        return super.scan(tree, v);
    }

    @Override public Void visitCompilationUnit(CompilationUnitTree tree, Void v) {
        check(tree.getPackageName() == null, 1, "a package");
        check(tree.getTypeDecls().size() == 1, 1, "one class in the file");
        for (ImportTree name : tree.getImports()) {
            check(IMPORTS.contains(name.getQualifiedIdentifier().toString()), 4, at(name));
        }
        return super.visitCompilationUnit(tree, v);
    }

    @Override public Void visitImport(ImportTree tree, Void v) {
        return null;
    }

    @Override public Void visitClass(ClassTree tree, Void v) {
        Set<Modifier> is = tree.getModifiers().getFlags();
        Tree parent = getCurrentPath().getParentPath().getLeaf();
        if (parent instanceof CompilationUnitTree) {
            check(is.contains(Modifier.PUBLIC) && is.contains(Modifier.FINAL), 1, "public and final: " + at(tree));
        } else {
            check(parent instanceof ClassTree, 2, "a local or nameless class: " + at(tree));
            check(is.contains(Modifier.STATIC), 2, "a class that isn't static: " + at(tree));
            check(!is.contains(Modifier.PUBLIC) && !is.contains(Modifier.PROTECTED), 1, at(tree));
        }
        long fields = tree.getMembers().stream().filter(m -> m instanceof VariableTree field
            && !field.getModifiers().getFlags().contains(Modifier.STATIC)).count();
        check(fields <= MOST_FIELDS, 11, fields + " fields: " + at(tree));
        check(tree.getMembers().stream().noneMatch(m -> m instanceof BlockTree), 5, "a block: " + at(tree));
        return super.visitClass(tree, v);
    }

    @Override public Void visitMethod(MethodTree tree, Void v) {
        Element method = trees.getElement(getCurrentPath());
        calls.computeIfAbsent(method, m -> new LinkedHashSet<>());
        Set<Modifier> is = tree.getModifiers().getFlags();
        String name = tree.getName().toString();
        if (!name.equals("<init>")) {
            (is.contains(Modifier.PRIVATE) ? privateNames : is.contains(Modifier.PUBLIC) ? publicNames
                : new HashSet<String>()).add(name);
            checkType(tree.getReturnType(), at(tree));
        }
        check(!Set.of("equals", "hashCode", "toString").contains(name), 6, at(tree));
        check(tree.getParameters().size() <= MOST_PARAMETERS, 11, "parameters: " + at(tree));
        long first = unit.getLineMap().getLineNumber(trees.getSourcePositions().getStartPosition(unit, tree));
        long last = unit.getLineMap().getLineNumber(trees.getSourcePositions().getEndPosition(unit, tree));
        check(last - first < MOST_LINES, 11, "lines: " + at(tree));
        return super.visitMethod(tree, v);
    }

    @Override public Void visitVariable(VariableTree tree, Void v) {
        checkType(tree.getType(), at(tree));
        Set<Modifier> is = tree.getModifiers().getFlags();
        if (is.contains(Modifier.STATIC)) {
            Element field = trees.getElement(getCurrentPath());
            boolean constant = field instanceof VariableElement element && element.getConstantValue() != null;
            boolean row = tree.getInitializer() instanceof NewArrayTree array && array.getInitializers() != null;
            check(is.contains(Modifier.FINAL) && (constant || row), 5, at(tree));
        }
        return super.visitVariable(tree, v);
    }

    private void checkType(Tree type, String told) {
        Tree of = type;
        int dimensions = 0;
        for (; of instanceof ArrayTypeTree array && dimensions < 9; dimensions++) {
            of = array.getType();
        }
        String name = String.valueOf(of);
        boolean number = NUMBERS.contains(name) && dimensions <= 2;
        boolean mine = ownClasses.contains(name) && dimensions <= 1;
        check(number || mine || name.equals("void") || name.equals("String"), 3, told);
    }

    @Override public Void visitTypeCast(TypeCastTree tree, Void v) {
        check(NUMBERS.contains(tree.getType().toString()), 6, "a cast of no number: " + at(tree));
        return super.visitTypeCast(tree, v);
    }

    @Override public Void visitMethodInvocation(MethodInvocationTree tree, Void v) {
        comesTo(trees.getElement(new TreePath(getCurrentPath(), tree.getMethodSelect())), at(tree));
        return super.visitMethodInvocation(tree, v);
    }

    @Override public Void visitNewClass(NewClassTree tree, Void v) {
        checkMaking(tree);
        comesTo(trees.getElement(getCurrentPath()), at(tree));
        return super.visitNewClass(tree, v);
    }

    @Override public Void visitNewArray(NewArrayTree tree, Void v) {
        checkMaking(tree);
        return super.visitNewArray(tree, v);
    }

    /** What a run makes is counted, so no call makes anything: only constructors and fields do. */
    private void checkMaking(Tree tree) {
        MethodTree inside = methodAround();
        check(inside == null || inside.getName().contentEquals("<init>"), 12, at(tree));
    }

    private MethodTree methodAround() {
        for (TreePath path = getCurrentPath(); path != null; path = path.getParentPath()) {
            if (path.getLeaf() instanceof MethodTree method) {
                return method;
            }
        }
        return null;
    }

    private void comesTo(Element called, String told) {
        if (called == null) {
            check(false, 4, "not known: " + told);
            return;
        }
        Element of = called.getEnclosingElement();
        if (!own.contains(of)) {
            check(LIBRARY.getOrDefault(of.toString(), Set.of()).contains(called.getSimpleName().toString()), 4, told);
            return;
        }
        for (TreePath path = getCurrentPath(); path != null; path = path.getParentPath()) {
            if (path.getLeaf() instanceof MethodTree) {
                calls.computeIfAbsent(trees.getElement(path), m -> new LinkedHashSet<>()).add(called);
            }
        }
    }

    private int depth(Element method, List<Element> open) {
        if (open.contains(method)) {
            check(false, 8, "calls itself: " + open + " " + method);
            return 0;
        }
        open.add(method);
        int deepest = 0;
        for (Element next : calls.getOrDefault(method, Set.of())) {
            deepest = Math.max(deepest, depth(next, open));
        }
        open.remove(open.size() - 1);
        return 1 + deepest;
    }

    @Override public Void visitWhileLoop(WhileLoopTree tree, Void v) {
        check(false, 9, at(tree));
        return super.visitWhileLoop(tree, v);
    }

    @Override public Void visitDoWhileLoop(DoWhileLoopTree tree, Void v) {
        check(false, 9, at(tree));
        return super.visitDoWhileLoop(tree, v);
    }

    /** A counter goes by one towards a bound, and nothing in the loop sets the counter or what the bound tells. */
    @Override public Void visitForLoop(ForLoopTree tree, Void v) {
        check(counts(tree), 9, at(tree));
        return super.visitForLoop(tree, v);
    }

    private static boolean counts(ForLoopTree tree) {
        if (tree.getInitializer().size() != 1 || tree.getUpdate().size() != 1
            || !(tree.getInitializer().get(0) instanceof VariableTree counter)
            || !(tree.getUpdate().get(0).getExpression() instanceof UnaryTree step)
            || !(firstOf(tree.getCondition()) instanceof BinaryTree bound)) {
            return false;
        }
        String name = counter.getName().toString();
        boolean up = step.getKind() == Tree.Kind.POSTFIX_INCREMENT
            && (bound.getKind() == Tree.Kind.LESS_THAN || bound.getKind() == Tree.Kind.LESS_THAN_EQUAL);
        boolean down = step.getKind() == Tree.Kind.POSTFIX_DECREMENT
            && (bound.getKind() == Tree.Kind.GREATER_THAN || bound.getKind() == Tree.Kind.GREATER_THAN_EQUAL);
        Set<String> set = new HashSet<>();
        new Assigned(set).scan(tree.getStatement(), null);
        boolean still = set.stream().noneMatch(s -> s.equals(name) || tells(bound.getRightOperand(), s));
        return (up || down) && still && step.getExpression().toString().equals(name)
            && bound.getLeftOperand().toString().equals(name);
    }

    private static boolean tells(ExpressionTree bound, String name) {
        return bound.toString().matches("(.*\\W)?" + java.util.regex.Pattern.quote(name) + "(\\W.*)?");
    }

    /** The first of conditions that must all hold. */
    private static ExpressionTree firstOf(ExpressionTree condition) {
        ExpressionTree first = condition;
        for (int step = 0; step < 9; step++) {
            if (first instanceof ParenthesizedTree inside) {
                first = inside.getExpression();
            } else if (first instanceof BinaryTree both && both.getKind() == Tree.Kind.CONDITIONAL_AND) {
                first = both.getLeftOperand();
            }
        }
        return first;
    }

    @Override public Void visitBinary(BinaryTree tree, Void v) {
        if (tree.getKind() == Tree.Kind.DIVIDE || tree.getKind() == Tree.Kind.REMAINDER) {
            TreePath divisor = new TreePath(getCurrentPath(), tree.getRightOperand());
            check(isNotZero(divisor) || isLookedAt(tree.getRightOperand().toString()), 7, "a divisor: " + at(tree));
        }
        return super.visitBinary(tree, v);
    }

    @Override public Void visitCompoundAssignment(CompoundAssignmentTree tree, Void v) {
        if (tree.getKind() == Tree.Kind.DIVIDE_ASSIGNMENT || tree.getKind() == Tree.Kind.REMAINDER_ASSIGNMENT) {
            check(isNotZero(new TreePath(getCurrentPath(), tree.getExpression())), 7, "a divisor: " + at(tree));
        }
        return super.visitCompoundAssignment(tree, v);
    }

    private boolean isNotZero(TreePath divisor) {
        Object value = null;
        if (divisor.getLeaf() instanceof LiteralTree literal) {
            value = literal.getValue();
        } else if (trees.getElement(divisor) instanceof VariableElement constant) {
            value = constant.getKind() == ElementKind.FIELD ? constant.getConstantValue() : null;
        }
        return value instanceof Number number && number.longValue() != 0;
    }

    /** Whether a condition around the place asks if a number is 0. */
    private boolean isLookedAt(String name) {
        for (TreePath path = getCurrentPath(); path != null; path = path.getParentPath()) {
            Tree leaf = path.getLeaf();
            Tree condition = leaf instanceof ForLoopTree loop ? loop.getCondition()
                : leaf instanceof IfTree choice ? choice.getCondition()
                : leaf instanceof ConditionalExpressionTree choice ? choice.getCondition() : null;
            if (condition != null && condition.toString().matches(".*\\b" + name + " [!=]= 0\\b.*")) {
                return true;
            }
        }
        return false;
    }

    /** The names of what is set, without the objects that have it. */
    private static final class Assigned extends TreePathScanner<Void, Void> {
        private final Set<String> names;

        Assigned(Set<String> names) {
            this.names = names;
        }

        @Override public Void scan(Tree tree, Void v) {
            if (tree instanceof AssignmentTree set) {
                add(set.getVariable());
            } else if (tree instanceof CompoundAssignmentTree set) {
                add(set.getVariable());
            } else if (tree instanceof UnaryTree step && step.getKind().toString().endsWith("CREMENT")) {
                add(step.getExpression());
            }
            return tree == null ? null : tree.accept(this, v);
        }

        private void add(ExpressionTree variable) {
            String name = variable.toString();
            names.add(name.substring(name.lastIndexOf('.') + 1));
        }
    }
}
