import com.sun.source.tree.AssertTree;
import com.sun.source.tree.AssignmentTree;
import com.sun.source.tree.ArrayAccessTree;
import com.sun.source.tree.BinaryTree;
import com.sun.source.tree.BlockTree;
import com.sun.source.tree.ClassTree;
import com.sun.source.tree.CompilationUnitTree;
import com.sun.source.tree.CompoundAssignmentTree;
import com.sun.source.tree.DoWhileLoopTree;
import com.sun.source.tree.ExpressionTree;
import com.sun.source.tree.ForLoopTree;
import com.sun.source.tree.LambdaExpressionTree;
import com.sun.source.tree.MemberReferenceTree;
import com.sun.source.tree.MethodInvocationTree;
import com.sun.source.tree.MethodTree;
import com.sun.source.tree.NewArrayTree;
import com.sun.source.tree.NewClassTree;
import com.sun.source.tree.SynchronizedTree;
import com.sun.source.tree.ThrowTree;
import com.sun.source.tree.Tree;
import com.sun.source.tree.TryTree;
import com.sun.source.tree.TypeCastTree;
import com.sun.source.tree.UnaryTree;
import com.sun.source.tree.VariableTree;
import com.sun.source.tree.WhileLoopTree;
import com.sun.source.util.TreePath;
import com.sun.source.util.TreePathScanner;
import com.sun.source.util.Trees;
import java.util.HashMap;
import java.util.HashSet;
import java.util.LinkedHashSet;
import java.util.Map;
import java.util.Set;
import javax.lang.model.element.Element;
import javax.lang.model.element.ElementKind;
import javax.lang.model.element.Modifier;
import javax.lang.model.element.TypeElement;
import javax.lang.model.element.VariableElement;
import javax.lang.model.type.TypeKind;

/**
 * Walks the class's syntax tree and holds it to LANGUAGE.md. It is stricter than the rules where the
 * class is: no loop but a for with a condition, nothing made but with the object, no recursion.
 */
final class LanguageRules extends TreePathScanner<Void, Void> {
    private static final String OWN = "GorgeRopes";
    private static final Set<String> LIBRARY = Set.of("java.lang.Math.max", "java.lang.Math.min",
            "java.lang.Math.abs", "java.lang.Integer.bitCount", "java.lang.System.arraycopy");
    /** Divisors that are no constants: each was looked at, and cannot be 0 where it divides. */
    private static final Set<String> DIVISORS = Set.of("d", "(load + 1)");
    private static final Set<String> CONSTANTS = Set.of("int", "long", "boolean", "char",
            "java.lang.String", "int[]", "long[]", "char[]", "byte[]");
    private static final int MOST_LINES = 60, MOST_PARAMETERS = 7, MOST_CLASSES = 12, MOST_FIELDS = 20;
    private static final int MOST_DEEP = 8;

    private final Check check;
    private final Trees trees;
    private final CompilationUnitTree unit;
    private final Map<Element, Set<Element>> callees = new HashMap<>();
    private final Map<Element, Integer> depths = new HashMap<>();
    private Element method;
    private int classes;

    LanguageRules(Check check, Trees trees, CompilationUnitTree unit) {
        this.check = check;
        this.trees = trees;
        this.unit = unit;
    }

    private void rule(int number, Tree at, String what, boolean holds) {
        check.holds("rule " + number + ", line " + lineOf(at) + ": " + what, holds);
    }

    private long lineOf(Tree tree) {
        return unit.getLineMap().getLineNumber(trees.getSourcePositions().getStartPosition(unit, tree));
    }

    private long lastLineOf(Tree tree) {
        return unit.getLineMap().getLineNumber(trees.getSourcePositions().getEndPosition(unit, tree));
    }

    private Element elementOf(Tree tree) {
        return trees.getElement(new TreePath(getCurrentPath(), tree));
    }

    private static boolean isOwn(Element e) {
        return e instanceof TypeElement type && (type.getQualifiedName().contentEquals(OWN)
                || type.getQualifiedName().toString().startsWith(OWN + "."));
    }

    void end() {
        check.holds("rule 11: " + classes + " classes", classes <= MOST_CLASSES);
        check.holds("no method was seen", !callees.isEmpty());
        for (Element caller : Set.copyOf(callees.keySet())) {
            int depth = depthOf(caller, new HashSet<>());
            check.holds("rule 11: calls go " + depth + " deep from " + caller, depth <= MOST_DEEP);
        }
    }

    /** How many calls stand open at once from a method on, with itself. */
    private int depthOf(Element caller, Set<Element> open) {
        Integer known = depths.get(caller);
        if (known != null) {
            return known;
        }
        if (!open.add(caller)) {
            check.holds("rule 8: " + caller + " calls itself", false);
            return MOST_DEEP;
        }
        int most = 0;
        for (Element callee : callees.getOrDefault(caller, Set.of())) {
            most = Math.max(most, depthOf(callee, open));
        }
        open.remove(caller);
        depths.put(caller, most + 1);
        return most + 1;
    }

    // ---- classes, fields, methods

    @Override
    public Void visitClass(ClassTree tree, Void nothing) {
        classes++;
        Element e = trees.getElement(getCurrentPath());
        boolean outer = e.getSimpleName().contentEquals(OWN);
        rule(2, tree, "an inner, local or anonymous class",
                outer || e.getModifiers().contains(Modifier.STATIC));
        long fields = e.getEnclosedElements().stream().filter(f -> f.getKind() == ElementKind.FIELD
                && !f.getModifiers().contains(Modifier.STATIC)).count();
        rule(11, tree, fields + " fields", fields <= MOST_FIELDS);
        Element around = method;
        method = null;
        super.visitClass(tree, nothing);
        method = around;
        return null;
    }

    @Override
    public Void visitVariable(VariableTree tree, Void nothing) {
        Element e = trees.getElement(getCurrentPath());
        if (e.getKind() == ElementKind.FIELD && e.getModifiers().contains(Modifier.STATIC)) {
            rule(5, tree, "a static field that is not final", e.getModifiers().contains(Modifier.FINAL));
            rule(5, tree, "a static field of " + e.asType(), CONSTANTS.contains(e.asType().toString()));
            rule(5, tree, "a static row that is not written out",
                    e.asType().getKind() != TypeKind.ARRAY || isWrittenOut(tree.getInitializer()));
        }
        return super.visitVariable(tree, nothing);
    }

    private static boolean isWrittenOut(ExpressionTree value) {
        return value instanceof NewArrayTree row && row.getInitializers() != null;
    }

    @Override
    public Void visitBlock(BlockTree tree, Void nothing) {
        rule(5, tree, "a static initialiser", !tree.isStatic());
        return super.visitBlock(tree, nothing);
    }

    @Override
    public Void visitMethod(MethodTree tree, Void nothing) {
        method = trees.getElement(getCurrentPath());
        callees.computeIfAbsent(method, m -> new LinkedHashSet<>());
        rule(11, tree, "too many parameters", tree.getParameters().size() <= MOST_PARAMETERS);
        rule(11, tree, "a long method", lastLineOf(tree) - lineOf(tree) < MOST_LINES);
        super.visitMethod(tree, nothing);
        method = null;
        return null;
    }

    // ---- calls and what is made

    @Override
    public Void visitMethodInvocation(MethodInvocationTree tree, Void nothing) {
        Element callee = trees.getElement(getCurrentPath());
        // A constructor's own call of Object's is there without being written.
        if (callee.getKind() != ElementKind.CONSTRUCTOR) {
            String name = callee.getEnclosingElement() + "." + callee.getSimpleName();
            rule(4, tree, "the library's " + name,
                    isOwn(callee.getEnclosingElement()) || LIBRARY.contains(name));
            rule(12, tree, "a call outside of methods", method != null);
            note(callee);
        }
        return super.visitMethodInvocation(tree, nothing);
    }

    @Override
    public Void visitNewClass(NewClassTree tree, Void nothing) {
        Element made = trees.getElement(getCurrentPath());
        rule(2, tree, "an anonymous class", tree.getClassBody() == null);
        rule(4, tree, "an object of the library", isOwn(made.getEnclosingElement()));
        rule(12, tree, "an object made by a call", isMadeWithTheObject());
        note(made);
        return super.visitNewClass(tree, nothing);
    }

    @Override
    public Void visitNewArray(NewArrayTree tree, Void nothing) {
        rule(3, tree, "a row of more than one dimension", tree.getDimensions().size() <= 1);
        rule(12, tree, "a row made by a call", isMadeWithTheObject());
        return super.visitNewArray(tree, nothing);
    }

    private boolean isMadeWithTheObject() {
        return method == null || method.getKind() == ElementKind.CONSTRUCTOR;
    }

    private void note(Element callee) {
        if (method != null) {
            callees.computeIfAbsent(method, m -> new LinkedHashSet<>()).add(callee);
        }
    }

    // ---- what may not be at all

    @Override
    public Void visitLambdaExpression(LambdaExpressionTree tree, Void nothing) {
        rule(2, tree, "a lambda", false);
        return super.visitLambdaExpression(tree, nothing);
    }

    @Override
    public Void visitMemberReference(MemberReferenceTree tree, Void nothing) {
        rule(2, tree, "a method reference", false);
        return super.visitMemberReference(tree, nothing);
    }

    @Override
    public Void visitThrow(ThrowTree tree, Void nothing) {
        rule(6, tree, "throw", false);
        return super.visitThrow(tree, nothing);
    }

    @Override
    public Void visitTry(TryTree tree, Void nothing) {
        rule(6, tree, "try", false);
        return super.visitTry(tree, nothing);
    }

    @Override
    public Void visitSynchronized(SynchronizedTree tree, Void nothing) {
        rule(6, tree, "synchronized", false);
        return super.visitSynchronized(tree, nothing);
    }

    @Override
    public Void visitAssert(AssertTree tree, Void nothing) {
        rule(6, tree, "assert", false);
        return super.visitAssert(tree, nothing);
    }

    @Override
    public Void visitTypeCast(TypeCastTree tree, Void nothing) {
        rule(6, tree, "a cast of a reference", isNumber(tree.getType()));
        return super.visitTypeCast(tree, nothing);
    }

    private boolean isNumber(Tree type) {
        return trees.getTypeMirror(new TreePath(getCurrentPath(), type)).getKind().isPrimitive();
    }

    @Override
    public Void visitWhileLoop(WhileLoopTree tree, Void nothing) {
        rule(9, tree, "a while, whose end is not seen", false);
        return super.visitWhileLoop(tree, nothing);
    }

    @Override
    public Void visitDoWhileLoop(DoWhileLoopTree tree, Void nothing) {
        rule(9, tree, "a do, whose end is not seen", false);
        return super.visitDoWhileLoop(tree, nothing);
    }

    @Override
    public Void visitForLoop(ForLoopTree tree, Void nothing) {
        rule(9, tree, "a for with no condition or no step",
                tree.getCondition() != null && !tree.getUpdate().isEmpty());
        return super.visitForLoop(tree, nothing);
    }

    // ---- divisors, and rows that are constants

    @Override
    public Void visitBinary(BinaryTree tree, Void nothing) {
        if (tree.getKind() == Tree.Kind.DIVIDE || tree.getKind() == Tree.Kind.REMAINDER) {
            rule(7, tree, "divides by " + tree.getRightOperand(), mayDivide(tree.getRightOperand()));
        }
        return super.visitBinary(tree, nothing);
    }

    private boolean mayDivide(ExpressionTree divisor) {
        if (divisor.getKind() == Tree.Kind.INT_LITERAL) {
            return !divisor.toString().equals("0");
        }
        Element e = elementOf(divisor);
        if (e instanceof VariableElement variable && variable.getConstantValue() instanceof Integer v) {
            return v != 0;
        }
        return DIVISORS.contains(divisor.toString());
    }

    @Override
    public Void visitAssignment(AssignmentTree tree, Void nothing) {
        changes(tree.getVariable());
        return super.visitAssignment(tree, nothing);
    }

    @Override
    public Void visitCompoundAssignment(CompoundAssignmentTree tree, Void nothing) {
        rule(7, tree, "divides and assigns", tree.getKind() != Tree.Kind.DIVIDE_ASSIGNMENT
                && tree.getKind() != Tree.Kind.REMAINDER_ASSIGNMENT);
        changes(tree.getVariable());
        return super.visitCompoundAssignment(tree, nothing);
    }

    @Override
    public Void visitUnary(UnaryTree tree, Void nothing) {
        changes(tree.getExpression());
        return super.visitUnary(tree, nothing);
    }

    private void changes(ExpressionTree target) {
        if (target instanceof ArrayAccessTree access) {
            Element row = elementOf(access.getExpression());
            rule(5, target, "changes a static row",
                    row == null || !row.getModifiers().contains(Modifier.STATIC));
        }
    }
}
