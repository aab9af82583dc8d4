import com.sun.source.tree.ArrayAccessTree;
import com.sun.source.tree.AssignmentTree;
import com.sun.source.tree.BinaryTree;
import com.sun.source.tree.ClassTree;
import com.sun.source.tree.CompilationUnitTree;
import com.sun.source.tree.CompoundAssignmentTree;
import com.sun.source.tree.ConditionalExpressionTree;
import com.sun.source.tree.ExpressionTree;
import com.sun.source.tree.LiteralTree;
import com.sun.source.tree.MethodInvocationTree;
import com.sun.source.tree.MethodTree;
import com.sun.source.tree.NewArrayTree;
import com.sun.source.tree.NewClassTree;
import com.sun.source.tree.Tree;
import com.sun.source.tree.Tree.Kind;
import com.sun.source.tree.TypeCastTree;
import com.sun.source.tree.VariableTree;
import com.sun.source.util.JavacTask;
import com.sun.source.util.TreePath;
import com.sun.source.util.TreePathScanner;
import com.sun.source.util.Trees;
import java.io.IOException;
import java.nio.file.Path;
import java.util.EnumSet;
import java.util.List;
import java.util.Map;
import java.util.Set;
import java.util.TreeMap;
import java.util.TreeSet;
import javax.lang.model.element.Element;
import javax.lang.model.element.ExecutableElement;
import javax.lang.model.element.Modifier;
import javax.lang.model.element.VariableElement;
import javax.tools.JavaCompiler;
import javax.tools.StandardJavaFileManager;
import javax.tools.ToolProvider;

/** The rules of LANGUAGE.md that need the syntax tree: what calls what, what is made where, what divides. */
public final class SourceTreeTest {
    /** What the class uses of rule 4's library. */
    private static final Set<String> LIBRARY = Set.of(
            "java.lang.String.length()", "java.lang.String.charAt(int)", "java.lang.String.indexOf(int)",
            "java.lang.Math.max(int,int)", "java.lang.Math.min(int,int)", "java.lang.Math.abs(int)",
            "java.lang.System.arraycopy(java.lang.Object,int,java.lang.Object,int,int)",
            "java.util.Arrays.fill(int[],int)", "java.util.Arrays.copyOf(int[],int)", "java.lang.Object.Object()");
    private static final Set<Kind> FORBIDDEN = EnumSet.of(Kind.LAMBDA_EXPRESSION, Kind.MEMBER_REFERENCE, Kind.THROW,
            Kind.TRY, Kind.SYNCHRONIZED, Kind.ASSERT, Kind.SWITCH_EXPRESSION, Kind.YIELD,
            Kind.ANNOTATION);
    private static final Set<Kind> DIVISIONS = EnumSet.of(Kind.DIVIDE, Kind.REMAINDER, Kind.DIVIDE_ASSIGNMENT,
            Kind.REMAINDER_ASSIGNMENT);
    private static final Set<Kind> LOOPS = EnumSet.of(Kind.FOR_LOOP, Kind.WHILE_LOOP, Kind.DO_WHILE_LOOP,
            Kind.ENHANCED_FOR_LOOP);
    private static final Set<String> NUMBERS = Set.of("int", "long", "short", "byte", "char", "boolean");
    private static final Set<String> CONSTANTS = Set.of("int", "long", "boolean", "char", "java.lang.String", "int[]",
            "long[]", "char[]", "byte[]");
    /** Rule 8's recursion: the depth of these two is carried as arguments. */
    private static final Set<String> RECURSION = Set.of("SmokeVotes.Reader.readChain", "SmokeVotes.Reader.readPiece");
    /** Beside constructors only a text that is read makes objects: all calls live in one room. */
    private static final Set<String> MAKERS = Set.of("SmokeVotes.Reader.law");
    private static final int MOST_DEEP = 8;

    private static int wrong = 0;

    public static void main(String[] args) throws IOException {
        JavaCompiler compiler = ToolProvider.getSystemJavaCompiler();
        try (StandardJavaFileManager files = compiler.getStandardFileManager(null, null, null)) {
            JavacTask task = (JavacTask) compiler.getTask(null, files, null, List.of("-proc:none"), null,
                    files.getJavaFileObjects(Path.of(args[0])));
            Iterable<? extends CompilationUnitTree> units = task.parse();
            task.analyze();
            Look look = new Look(Trees.instance(task));
            look.scan(units, null);
            must(look.methods >= 80, "the tree was read: " + look.methods + " methods");
            must(look.makers.equals(MAKERS), "rule 12: only these make objects: " + look.makers);
            callsAreShallow(look.calls);
            System.out.println((wrong == 0 ? "the tree keeps to the language" : wrong + " rules are broken") + ": "
                    + look.methods + " methods, calls at most " + deepest(look.calls) + " deep");
        }
        System.exit(wrong == 0 ? 0 : 1);
    }

    private static void must(boolean holds, String what) {
        if (!holds) {
            wrong++;
            System.out.println("broken: " + what);
        }
    }

    // ---- rules 8 and 11: what calls what

    private static void callsAreShallow(Map<String, Set<String>> calls) {
        Set<String> turning = new TreeSet<>();
        for (String method : calls.keySet()) {
            if (reached(method, calls).contains(method)) {
                turning.add(method);
            }
        }
        must(turning.equals(RECURSION), "only the reading of a text calls itself: " + turning);
        int deep = deepest(calls);
        must(deep <= MOST_DEEP, "calls go " + deep + " deep");
    }

    private static Set<String> reached(String from, Map<String, Set<String>> calls) {
        Set<String> all = new TreeSet<>();
        grow(from, calls, all);
        return all;
    }

    private static void grow(String from, Map<String, Set<String>> calls, Set<String> all) {
        for (String next : calls.getOrDefault(from, Set.of())) {
            if (all.add(next)) {
                grow(next, calls, all);
            }
        }
    }

    private static int deepest(Map<String, Set<String>> calls) {
        int most = 0;
        for (String method : calls.keySet()) {
            most = Math.max(most, depth(method, calls, new TreeSet<>()));
        }
        return most;
    }

    /** The longest chain of methods from one on, each of the recursion's own counted once. */
    private static int depth(String method, Map<String, Set<String>> calls, Set<String> open) {
        if (!open.add(method)) {
            return 0;
        }
        int below = 0;
        for (String next : calls.getOrDefault(method, Set.of())) {
            below = Math.max(below, depth(next, calls, open));
        }
        open.remove(method);
        return below + 1;
    }

    // ---- the other rules, tree by tree

    private static final class Look extends TreePathScanner<Void, Void> {
        final Map<String, Set<String>> calls = new TreeMap<>();
        final Set<String> makers = new TreeSet<>();
        int methods = 0;
        private final Trees trees;

        Look(Trees trees) {
            this.trees = trees;
        }

        @Override
        public Void scan(Tree tree, Void nothing) {
            if (tree != null) {
                must(!FORBIDDEN.contains(tree.getKind()), "rules 2 and 6: no " + tree.getKind() + ": " + tree);
            }
            return super.scan(tree, nothing);
        }

        @Override
        public Void visitClass(ClassTree tree, Void nothing) {
            Element self = trees.getElement(getCurrentPath());
            boolean outer = tree.getSimpleName().contentEquals("SmokeVotes");
            must(outer || self.getModifiers().contains(Modifier.STATIC), "rule 2: " + tree.getSimpleName() + " is static");
            must(self.getEnclosingElement().getKind().isClass() || outer, "rule 2: " + tree.getSimpleName() + " is no local one");
            for (Tree member : tree.getMembers()) {
                must(member.getKind() != Kind.BLOCK, "rule 5: no initialiser block");
            }
            return super.visitClass(tree, nothing);
        }

        @Override
        public Void visitMethod(MethodTree tree, Void nothing) {
            methods++;
            must(tree.getParameters().size() <= 7, "rule 11: " + tree.getName() + " takes at most seven");
            calls.computeIfAbsent(nameOf(trees.getElement(getCurrentPath())), k -> new TreeSet<>());
            return super.visitMethod(tree, nothing);
        }

        @Override
        public Void visitMethodInvocation(MethodInvocationTree tree, Void nothing) {
            Element called = trees.getElement(getCurrentPath());
            String name = nameOf(called);
            if (name.startsWith("SmokeVotes")) {
                note(name);
            } else {
                String full = called.getEnclosingElement() + "." + plain(called.toString());
                must(LIBRARY.contains(full), "rule 4: " + full);
            }
            if (called.getSimpleName().contentEquals("copyOf")) {
                madeInPlace(tree);
            }
            return super.visitMethodInvocation(tree, nothing);
        }

        @Override
        public Void visitNewClass(NewClassTree tree, Void nothing) {
            Element maker = trees.getElement(getCurrentPath());
            must(nameOf(maker).startsWith("SmokeVotes"), "rule 4: only own classes are made: " + tree);
            must(tree.getClassBody() == null, "rule 2: no anonymous class");
            madeInPlace(tree);
            note(nameOf(maker));
            return super.visitNewClass(tree, nothing);
        }

        @Override
        public Void visitNewArray(NewArrayTree tree, Void nothing) {
            madeInPlace(tree);
            must(tree.getDimensions().size() <= 1, "rule 3: rows of one dimension: " + tree);
            for (ExpressionTree length : tree.getDimensions()) {
                must(constant(length) != null, "rule 7: a row's length is known: " + tree);
            }
            return super.visitNewArray(tree, nothing);
        }

        @Override
        public Void visitBinary(BinaryTree tree, Void nothing) {
            if (DIVISIONS.contains(tree.getKind())) {
                divides(tree.getRightOperand());
            }
            boolean same = tree.getKind() == Kind.EQUAL_TO || tree.getKind() == Kind.NOT_EQUAL_TO;
            must(!same || !isText(tree.getLeftOperand()), "rule 6: no == of texts: " + tree);
            must(tree.getKind() != Kind.PLUS || !isText(tree), "rule 10: no texts joined by +: " + tree);
            return super.visitBinary(tree, nothing);
        }

        @Override
        public Void visitCompoundAssignment(CompoundAssignmentTree tree, Void nothing) {
            if (DIVISIONS.contains(tree.getKind())) {
                divides(tree.getExpression());
            }
            return super.visitCompoundAssignment(tree, nothing);
        }

        @Override
        public Void visitTypeCast(TypeCastTree tree, Void nothing) {
            must(NUMBERS.contains(tree.getType().toString()), "rule 6: only numbers are cast: " + tree);
            return super.visitTypeCast(tree, nothing);
        }

        @Override
        public Void visitVariable(VariableTree tree, Void nothing) {
            Element element = trees.getElement(getCurrentPath());
            boolean shared = element.getKind().isField() && element.getModifiers().contains(Modifier.STATIC);
            if (shared) {
                must(element.getModifiers().contains(Modifier.FINAL), "rule 5: " + tree.getName() + " is final");
                must(CONSTANTS.contains(element.asType().toString()), "rule 5: " + tree.getName() + " is a constant");
                must(tree.getInitializer() != null, "rule 5: " + tree.getName() + " is written out");
            }
            String type = element.asType().toString();
            must(!type.contains("double") && !type.contains("float"), "rule 3: all numbers are whole: " + tree);
            return super.visitVariable(tree, nothing);
        }

        @Override
        public Void visitAssignment(AssignmentTree tree, Void nothing) {
            if (tree.getVariable() instanceof ArrayAccessTree place) {
                TreePath row = new TreePath(getCurrentPath(), place.getExpression());
                Element element = trees.getElement(row);
                must(element == null || !element.getModifiers().contains(Modifier.STATIC),
                        "rule 5: a static row is never changed: " + tree);
            }
            return super.visitAssignment(tree, nothing);
        }

        private void note(String called) {
            for (TreePath at = getCurrentPath(); at != null; at = at.getParentPath()) {
                if (at.getLeaf() instanceof MethodTree) {
                    calls.computeIfAbsent(nameOf(trees.getElement(at)), k -> new TreeSet<>()).add(called);
                    return;
                }
            }
        }

        /** Rule 12: nothing is made in a loop, but in the constructor, whose loops have constant bounds. */
        private void madeInPlace(Tree tree) {
            boolean looping = false;
            for (TreePath at = getCurrentPath(); at != null; at = at.getParentPath()) {
                looping |= LOOPS.contains(at.getLeaf().getKind());
                if (at.getLeaf() instanceof MethodTree method) {
                    boolean first = method.getName().contentEquals("<init>");
                    must(!looping || first, "rule 12: made in a loop: " + tree);
                    if (!first) {
                        makers.add(nameOf(trees.getElement(at)));
                    }
                    return;
                }
            }
        }

        /** Rule 7: a divisor is a constant that is not 0, or a ?: right above has looked at it. */
        private void divides(ExpressionTree divisor) {
            if (constant(divisor) instanceof Integer n) {
                must(n != 0, "rule 7: a divisor of 0: " + getCurrentPath().getLeaf());
                return;
            }
            Tree above = getCurrentPath().getParentPath().getLeaf();
            must(above instanceof ConditionalExpressionTree choice
                    && choice.getFalseExpression() == getCurrentPath().getLeaf()
                    && choice.getCondition().toString().equals(divisor + " == 0"),
                    "rule 7: a divisor is looked at first: " + above);
        }

        private boolean isText(ExpressionTree tree) {
            TreePath path = new TreePath(getCurrentPath(), tree);
            return trees.getTypeMirror(path) != null && trees.getTypeMirror(path).toString().equals("java.lang.String");
        }

        private Object constant(ExpressionTree tree) {
            if (tree instanceof LiteralTree literal) {
                return literal.getValue();
            }
            if (tree instanceof BinaryTree both) {
                Object left = constant(both.getLeftOperand());
                Object right = constant(both.getRightOperand());
                boolean sum = both.getKind() == Kind.PLUS && left instanceof Integer && right instanceof Integer;
                return sum ? (Integer) left + (Integer) right : null;
            }
            Element element = trees.getElement(new TreePath(getCurrentPath(), tree));
            return element instanceof VariableElement named ? named.getConstantValue() : null;
        }

        private static String nameOf(Element method) {
            if (!(method instanceof ExecutableElement)) {
                return String.valueOf(method);
            }
            return method.getEnclosingElement() + "." + method.getSimpleName();
        }

        private static String plain(String signature) {
            return signature.replaceAll("<[^>]*>", "");
        }
    }
}
