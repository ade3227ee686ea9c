import com.sun.source.tree.AssertTree;
import com.sun.source.tree.BinaryTree;
import com.sun.source.tree.BlockTree;
import com.sun.source.tree.ClassTree;
import com.sun.source.tree.CompilationUnitTree;
import com.sun.source.tree.CompoundAssignmentTree;
import com.sun.source.tree.DoWhileLoopTree;
import com.sun.source.tree.EnhancedForLoopTree;
import com.sun.source.tree.ExpressionTree;
import com.sun.source.tree.ForLoopTree;
import com.sun.source.tree.LambdaExpressionTree;
import com.sun.source.tree.MemberReferenceTree;
import com.sun.source.tree.MethodInvocationTree;
import com.sun.source.tree.MethodTree;
import com.sun.source.tree.NewArrayTree;
import com.sun.source.tree.NewClassTree;
import com.sun.source.tree.ParenthesizedTree;
import com.sun.source.tree.SynchronizedTree;
import com.sun.source.tree.ThrowTree;
import com.sun.source.tree.Tree;
import com.sun.source.tree.TryTree;
import com.sun.source.tree.TypeCastTree;
import com.sun.source.tree.VariableTree;
import com.sun.source.tree.WhileLoopTree;
import com.sun.source.util.JavacTask;
import com.sun.source.util.TreePath;
import com.sun.source.util.TreePathScanner;
import com.sun.source.util.Trees;
import java.io.File;
import java.io.IOException;
import java.util.ArrayList;
import java.util.HashSet;
import java.util.LinkedHashMap;
import java.util.LinkedHashSet;
import java.util.List;
import java.util.Map;
import java.util.Set;
import javax.lang.model.element.Element;
import javax.lang.model.element.ElementKind;
import javax.lang.model.element.ExecutableElement;
import javax.lang.model.element.Modifier;
import javax.lang.model.element.VariableElement;
import javax.lang.model.type.ArrayType;
import javax.lang.model.type.TypeKind;
import javax.lang.model.type.TypeMirror;
import javax.tools.JavaCompiler;
import javax.tools.StandardJavaFileManager;
import javax.tools.ToolProvider;

/** The rules of LANGUAGE.md, looked up in the program's own lines as the compiler understands them. */
public final class RulesTest {
    private static final Check CHECK = new Check();
    /** Of what rule 4 lists, what the program uses. */
    private static final Set<String> LIBRARY = Set.of("java.lang.String.length", "java.lang.String.charAt",
        "java.lang.System.arraycopy", "java.util.Arrays.fill", "java.lang.Math.max", "java.lang.Math.min",
        "java.lang.Math.abs", "java.lang.Long.bitCount");
    /** Divisors that are no constants: each is looked at in the same method before it divides. */
    private static final Set<String> LOOKED_AT = Set.of("steps columns", "bearing bear", "frost lake.frostCount");
    private static final int DEEPEST = 8;
    private static final int LONGEST = 60;

    private final Trees trees;
    private final CompilationUnitTree unit;
    private final Map<String, Set<String>> calls = new LinkedHashMap<>();
    private final Set<String> seenByOthers = new HashSet<>();

    private RulesTest(Trees someTrees, CompilationUnitTree someUnit) {
        trees = someTrees;
        unit = someUnit;
    }

    public static void main(String[] args) throws IOException {
        JavaCompiler compiler = ToolProvider.getSystemJavaCompiler();
        try (StandardJavaFileManager files = compiler.getStandardFileManager(null, null, null)) {
            JavacTask task = (JavacTask) compiler.getTask(null, files, null, List.of("-proc:none"), null,
                files.getJavaFileObjects(new File("src/main/java/IceStreet.java")));
            CompilationUnitTree unit = task.parse().iterator().next();
            task.analyze();
            RulesTest it = new RulesTest(Trees.instance(task), unit);
            it.new Lines().scan(unit, null);
            it.lookAtDepth();
            CHECK.due("rule: the file has no package line", unit.getPackageName() == null, true);
            CHECK.due("rule: one class in the file", unit.getTypeDecls().size(), 1);
        }
        CHECK.finish();
    }

    private void rule(int number, Tree where, String what, boolean kept) {
        long at = trees.getSourcePositions().getStartPosition(unit, where);
        CHECK.due("rule " + number + ", line " + unit.getLineMap().getLineNumber(at) + ": " + what, kept, true);
    }

    /** Rules 8 and 11: who calls whom, and how deep it goes. */
    private void lookAtDepth() {
        for (String method : calls.keySet()) {
            List<String> row = deepest(method, new LinkedHashSet<>());
            CHECK.due("rule 11: calls go deep, " + row, row.size() <= DEEPEST, true);
            if (reaches(method, method, new HashSet<>())) {
                CHECK.due("rule 8: " + method + " comes again, so it is private", seenByOthers.contains(method), false);
            }
        }
    }

    private List<String> deepest(String method, Set<String> open) {
        List<String> best = new ArrayList<>();
        open.add(method);
        for (String next : calls.getOrDefault(method, Set.of())) {
            if (!open.contains(next)) {
                List<String> row = deepest(next, open);
                best = row.size() > best.size() ? row : best;
            }
        }
        open.remove(method);
        best.add(0, method);
        return best;
    }

    private boolean reaches(String method, String goal, Set<String> seen) {
        for (String next : calls.getOrDefault(method, Set.of())) {
            if (next.equals(goal) || seen.add(next) && reaches(next, goal, seen)) {
                return true;
            }
        }
        return false;
    }

    private final class Lines extends TreePathScanner<Void, Void> {
        private ExecutableElement method;

        private boolean isOwn(Element e) {
            return e.toString().startsWith("IceStreet");
        }

        private String nameOf(ExecutableElement e) {
            return e.getEnclosingElement() + "." + e;
        }

        private TypeMirror typeOf(Tree tree) {
            return trees.getTypeMirror(new TreePath(getCurrentPath(), tree));
        }

        private boolean isFine(TypeMirror type) {
            if (type.getKind() == TypeKind.ARRAY) {
                TypeMirror part = ((ArrayType) type).getComponentType();
                boolean ofRows = part.getKind() == TypeKind.ARRAY
                    && ((ArrayType) part).getComponentType().getKind().isPrimitive();
                return ofRows || part.getKind() != TypeKind.ARRAY && isFine(part);
            }
            return type.getKind().isPrimitive() || type.toString().equals("java.lang.String")
                || type.toString().startsWith("IceStreet.");
        }

        @Override
        public Void visitClass(ClassTree tree, Void none) {
            Element e = trees.getElement(getCurrentPath());
            boolean outer = e.toString().equals("IceStreet");
            rule(2, tree, "a class inside is static, not local, not inside one that is inside", outer
                || e.getModifiers().contains(Modifier.STATIC)
                && e.getEnclosingElement().toString().equals("IceStreet"));
            rule(1, tree, "a class inside is not public or protected", outer
                || !e.getModifiers().contains(Modifier.PUBLIC) && !e.getModifiers().contains(Modifier.PROTECTED));
            return super.visitClass(tree, none);
        }

        @Override
        public Void visitMethod(MethodTree tree, Void none) {
            ExecutableElement before = method;
            method = (ExecutableElement) trees.getElement(getCurrentPath());
            calls.computeIfAbsent(nameOf(method), k -> new LinkedHashSet<>());
            if (!method.getModifiers().contains(Modifier.PRIVATE)) {
                seenByOthers.add(nameOf(method));
            }
            long first = trees.getSourcePositions().getStartPosition(unit, tree);
            long last = trees.getSourcePositions().getEndPosition(unit, tree);
            boolean face = method.getModifiers().contains(Modifier.PUBLIC);
            if (last >= 0) {
                long lines = unit.getLineMap().getLineNumber(last) - unit.getLineMap().getLineNumber(first) + 1;
                rule(11, tree, method + " is short", lines <= LONGEST);
            }
            rule(11, tree, method + " takes seven at most", face || method.getParameters().size() <= 7);
            rule(6, tree, method + " throws nothing", method.getThrownTypes().isEmpty());
            super.visitMethod(tree, none);
            method = before;
            return null;
        }

        @Override
        public Void visitVariable(VariableTree tree, Void none) {
            VariableElement e = (VariableElement) trees.getElement(getCurrentPath());
            rule(3, tree, e + " is of a type that may be", isFine(e.asType()));
            if (e.getKind() == ElementKind.FIELD && e.getModifiers().contains(Modifier.STATIC)) {
                rule(5, tree, e + " is final", e.getModifiers().contains(Modifier.FINAL));
                boolean written = tree.getInitializer() instanceof NewArrayTree
                    && ((NewArrayTree) tree.getInitializer()).getDimensions().isEmpty();
                rule(5, tree, e + " is a constant or written out", e.getConstantValue() != null || written);
            }
            return super.visitVariable(tree, none);
        }

        @Override
        public Void visitMethodInvocation(MethodInvocationTree tree, Void none) {
            ExecutableElement e = (ExecutableElement) trees.getElement(getCurrentPath());
            boolean isSuper = tree.getMethodSelect().toString().equals("super");
            if (isOwn(e.getEnclosingElement())) {
                rule(7, tree, "calls stand in methods", method != null);
                calls.computeIfAbsent(nameOf(method), k -> new LinkedHashSet<>()).add(nameOf(e));
            } else if (!isSuper) {
                String name = e.getEnclosingElement() + "." + e.getSimpleName();
                rule(4, tree, name + " is of the library's part", LIBRARY.contains(name));
            }
            return super.visitMethodInvocation(tree, none);
        }

        @Override
        public Void visitNewClass(NewClassTree tree, Void none) {
            rule(2, tree, "no anonymous class", tree.getClassBody() == null);
            rule(4, tree, "an own class is made", isOwn(trees.getElement(getCurrentPath()).getEnclosingElement()));
            rule(12, tree, "objects are made with the object", method == null || method.getKind() == ElementKind.CONSTRUCTOR);
            return super.visitNewClass(tree, none);
        }

        @Override
        public Void visitNewArray(NewArrayTree tree, Void none) {
            rule(12, tree, "rows are made with the object", method == null || method.getKind() == ElementKind.CONSTRUCTOR);
            return super.visitNewArray(tree, none);
        }

        @Override
        public Void visitBinary(BinaryTree tree, Void none) {
            TypeMirror left = typeOf(tree.getLeftOperand());
            switch (tree.getKind()) {
                case EQUAL_TO:
                case NOT_EQUAL_TO:
                    rule(6, tree, "no " + tree, left.getKind().isPrimitive());
                    break;
                case PLUS:
                    rule(10, tree, "no texts joined by +", left.getKind().isPrimitive());
                    break;
                case DIVIDE:
                case REMAINDER:
                    rule(7, tree, "the divisor of " + tree + " is no 0", isNoZero(tree.getRightOperand()));
                    break;
                default:
                    break;
            }
            return super.visitBinary(tree, none);
        }

        private boolean isNoZero(ExpressionTree divisor) {
            return divisor.toString().matches("[1-9][0-9]*")
                || LOOKED_AT.contains(method.getSimpleName() + " " + divisor);
        }

        @Override
        public Void visitCompoundAssignment(CompoundAssignmentTree tree, Void none) {
            rule(7, tree, "no division by " + tree, tree.getKind() != Tree.Kind.DIVIDE_ASSIGNMENT
                && tree.getKind() != Tree.Kind.REMAINDER_ASSIGNMENT);
            rule(10, tree, "no texts joined by +=", typeOf(tree.getVariable()).getKind().isPrimitive());
            return super.visitCompoundAssignment(tree, none);
        }

        @Override
        public Void visitTypeCast(TypeCastTree tree, Void none) {
            rule(6, tree, "casts are of numbers", typeOf(tree.getType()).getKind().isPrimitive());
            return super.visitTypeCast(tree, none);
        }

        /** A loop goes on so long as some counter is within its bound, whatever else holds. */
        private boolean isBounded(ExpressionTree condition) {
            if (condition instanceof ParenthesizedTree) {
                return isBounded(((ParenthesizedTree) condition).getExpression());
            }
            if (!(condition instanceof BinaryTree)) {
                return false;
            }
            BinaryTree both = (BinaryTree) condition;
            switch (both.getKind()) {
                case CONDITIONAL_AND: return isBounded(both.getLeftOperand()) || isBounded(both.getRightOperand());
                case LESS_THAN:
                case LESS_THAN_EQUAL:
                case GREATER_THAN:
                case GREATER_THAN_EQUAL: return true;
                default: return false;
            }
        }

        @Override
        public Void visitForLoop(ForLoopTree tree, Void none) {
            rule(9, tree, "its end can be seen", tree.getCondition() != null && isBounded(tree.getCondition()));
            rule(9, tree, "it counts", !tree.getUpdate().isEmpty());
            return super.visitForLoop(tree, none);
        }

        @Override
        public Void visitWhileLoop(WhileLoopTree tree, Void none) {
            rule(9, tree, "its end can be seen", isBounded(tree.getCondition()));
            return super.visitWhileLoop(tree, none);
        }

        @Override
        public Void visitDoWhileLoop(DoWhileLoopTree tree, Void none) {
            rule(9, tree, "its end can be seen", isBounded(tree.getCondition()));
            return super.visitDoWhileLoop(tree, none);
        }

        @Override
        public Void visitEnhancedForLoop(EnhancedForLoopTree tree, Void none) {
            rule(9, tree, "it goes over an array", typeOf(tree.getExpression()).getKind() == TypeKind.ARRAY);
            return super.visitEnhancedForLoop(tree, none);
        }

        private Void refused(int number, Tree tree) {
            rule(number, tree, "no " + tree.getKind(), false);
            return null;
        }

        @Override
        public Void visitBlock(BlockTree tree, Void none) {
            if (getCurrentPath().getParentPath().getLeaf() instanceof ClassTree) {
                return refused(5, tree);
            }
            return super.visitBlock(tree, none);
        }

        @Override
        public Void visitLambdaExpression(LambdaExpressionTree tree, Void none) {
            return refused(2, tree);
        }

        @Override
        public Void visitMemberReference(MemberReferenceTree tree, Void none) {
            return refused(2, tree);
        }

        @Override
        public Void visitTry(TryTree tree, Void none) {
            return refused(6, tree);
        }

        @Override
        public Void visitThrow(ThrowTree tree, Void none) {
            return refused(6, tree);
        }

        @Override
        public Void visitSynchronized(SynchronizedTree tree, Void none) {
            return refused(6, tree);
        }

        @Override
        public Void visitAssert(AssertTree tree, Void none) {
            return refused(6, tree);
        }
    }
}
