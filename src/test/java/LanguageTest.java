import com.sun.source.tree.AssertTree;
import com.sun.source.tree.AssignmentTree;
import com.sun.source.tree.BinaryTree;
import com.sun.source.tree.BlockTree;
import com.sun.source.tree.ClassTree;
import com.sun.source.tree.CompilationUnitTree;
import com.sun.source.tree.CompoundAssignmentTree;
import com.sun.source.tree.DoWhileLoopTree;
import com.sun.source.tree.EnhancedForLoopTree;
import com.sun.source.tree.ExpressionStatementTree;
import com.sun.source.tree.ExpressionTree;
import com.sun.source.tree.ForLoopTree;
import com.sun.source.tree.IdentifierTree;
import com.sun.source.tree.InstanceOfTree;
import com.sun.source.tree.LambdaExpressionTree;
import com.sun.source.tree.LineMap;
import com.sun.source.tree.LiteralTree;
import com.sun.source.tree.MemberReferenceTree;
import com.sun.source.tree.MemberSelectTree;
import com.sun.source.tree.MethodInvocationTree;
import com.sun.source.tree.MethodTree;
import com.sun.source.tree.NewArrayTree;
import com.sun.source.tree.NewClassTree;
import com.sun.source.tree.SynchronizedTree;
import com.sun.source.tree.ThrowTree;
import com.sun.source.tree.Tree;
import com.sun.source.tree.Tree.Kind;
import com.sun.source.tree.TryTree;
import com.sun.source.tree.TypeCastTree;
import com.sun.source.tree.UnaryTree;
import com.sun.source.tree.VariableTree;
import com.sun.source.tree.WhileLoopTree;
import com.sun.source.util.JavacTask;
import com.sun.source.util.SourcePositions;
import com.sun.source.util.TreePath;
import com.sun.source.util.TreePathScanner;
import com.sun.source.util.Trees;
import java.io.File;
import java.io.IOException;
import java.util.ArrayList;
import java.util.EnumSet;
import java.util.List;
import java.util.Set;
import java.util.TreeMap;
import java.util.TreeSet;
import javax.lang.model.element.Element;
import javax.lang.model.element.ElementKind;
import javax.lang.model.element.Modifier;
import javax.lang.model.element.VariableElement;
import javax.lang.model.type.ArrayType;
import javax.lang.model.type.TypeKind;
import javax.lang.model.type.TypeMirror;
import javax.tools.JavaCompiler;
import javax.tools.StandardJavaFileManager;
import javax.tools.ToolProvider;

/**
 * The program keeps to LANGUAGE.md: reads its source as the compiler does and looks at each rule
 * that can be seen there. Where a rule is hard to see, a narrower one is asked for. Rule 7 (no
 * call throws) and the names of rule 1 are left to the other tests; rule 9 forbids nothing.
 */
public final class LanguageTest extends TreePathScanner<Void, Void> {
    private static final String PROGRAM = "src/main/java/InvariantFinder.java";
    private static final String NAME = "InvariantFinder";
    private static final int MOST_PARAMETERS = 7;
    private static final int MOST_LINES = 60;
    private static final int MOST_DEEP = 6;
    private static final int MOST_FIELDS = 40;
    private static final Set<TypeKind> NUMBERS = EnumSet.of(TypeKind.INT, TypeKind.LONG,
        TypeKind.SHORT, TypeKind.BYTE, TypeKind.CHAR, TypeKind.BOOLEAN);

    private final Trees trees;
    private final CompilationUnitTree unit;
    private final TreeMap<String, TreeSet<String>> callsOf = new TreeMap<>();
    private int fields = 0;
    private int faults = 0;

    private LanguageTest(Trees trees, CompilationUnitTree unit) {
        this.trees = trees;
        this.unit = unit;
    }

    private void fault(int rule, Tree where, String what) {
        faults++;
        System.out.println("rule " + rule + ", line " + lineOf(where, false) + ": " + what);
    }

    private long lineOf(Tree tree, boolean last) {
        SourcePositions positions = trees.getSourcePositions();
        long at = last ? positions.getEndPosition(unit, tree) : positions.getStartPosition(unit, tree);
        LineMap lines = unit.getLineMap();
        return at < 0 ? 0 : lines.getLineNumber(at);
    }

    private TypeMirror typeOf(Tree tree) {
        return trees.getTypeMirror(new TreePath(getCurrentPath(), tree));
    }

    private static boolean isArray(TypeMirror type) {
        return type != null && type.getKind() == TypeKind.ARRAY;
    }

    private static boolean isAllowed(TypeMirror type) {
        TypeMirror cell = isArray(type) ? ((ArrayType) type).getComponentType() : type;
        return NUMBERS.contains(cell.getKind());
    }

    // Rules 1 and 3: the file and its one class

    private void lookAtFile() {
        if (unit.getPackageName() != null) {
            fault(1, unit, "a package line");
        }
        if (!unit.getImports().isEmpty()) {
            fault(3, unit, "an import");
        }
        if (unit.getTypeDecls().size() != 1) {
            fault(1, unit, "more than one class");
        }
    }

    @Override
    public Void visitClass(ClassTree node, Void none) {
        boolean outer = getCurrentPath().getParentPath().getLeaf() == unit;
        boolean plain = node.getExtendsClause() == null && node.getImplementsClause().isEmpty()
            && node.getTypeParameters().isEmpty() && node.getModifiers().getAnnotations().isEmpty();
        if (!outer || node.getKind() != Kind.CLASS || !plain) {
            fault(1, node, "not the one plain class");
        }
        for (Tree member : node.getMembers()) {
            if (member instanceof BlockTree) {
                fault(5, member, "an initialiser block");
            }
        }
        return super.visitClass(node, none);
    }

    // Rules 2, 4 and 5: types, fields and arrays

    @Override
    public Void visitVariable(VariableTree node, Void none) {
        VariableElement variable = (VariableElement) trees.getElement(getCurrentPath());
        if (!isAllowed(variable.asType())) {
            fault(2, node, "a variable of type " + variable.asType());
        }
        if (variable.getKind() == ElementKind.FIELD) {
            lookAtField(node, variable);
        }
        return super.visitVariable(node, none);
    }

    private void lookAtField(VariableTree node, VariableElement field) {
        TypeKind kind = field.asType().getKind();
        if (field.getModifiers().contains(Modifier.STATIC)) {
            boolean whole = kind == TypeKind.INT || kind == TypeKind.LONG;
            if (!whole || field.getConstantValue() == null) {
                fault(5, node, "a static field that is no constant of int or long");
            }
            return;
        }
        fields++;
        boolean madeHere = node.getInitializer() instanceof NewArrayTree;
        boolean fixed = field.getModifiers().contains(Modifier.FINAL);
        if (kind == TypeKind.ARRAY && !(madeHere && fixed)) {
            fault(4, node, "an array that is not made in its field's initialiser, once for all");
        }
    }

    @Override
    public Void visitNewArray(NewArrayTree node, Void none) {
        Element holder = trees.getElement(getCurrentPath().getParentPath());
        if (holder == null || holder.getKind() != ElementKind.FIELD) {
            fault(4, node, "an array made outside a field's initialiser");
        }
        if (node.getInitializers() != null || node.getDimensions().size() != 1) {
            fault(4, node, "an array without a plain length");
        } else if (!isOneOrMore(constantOf(node.getDimensions().get(0)))) {
            fault(4, node, "an array whose length is no literal or constant of 1 or more");
        }
        return super.visitNewArray(node, none);
    }

    private Object constantOf(ExpressionTree node) {
        if (node instanceof LiteralTree) {
            return ((LiteralTree) node).getValue();
        }
        Element named = trees.getElement(new TreePath(getCurrentPath(), node));
        return named instanceof VariableElement ? ((VariableElement) named).getConstantValue() : null;
    }

    private static boolean isOneOrMore(Object constant) {
        return constant instanceof Integer && (Integer) constant >= 1;
    }

    @Override
    public Void visitAssignment(AssignmentTree node, Void none) {
        if (isArray(typeOf(node.getVariable()))) {
            fault(4, node, "a variable that changes to another array");
        }
        return super.visitAssignment(node, none);
    }

    @Override
    public Void visitBinary(BinaryTree node, Void none) {
        if (isArray(typeOf(node.getLeftOperand())) || isArray(typeOf(node.getRightOperand()))) {
            fault(4, node, "an array compared");
        }
        return super.visitBinary(node, none);
    }

    @Override
    public Void visitLiteral(LiteralTree node, Void none) {
        Kind kind = node.getKind();
        if (kind == Kind.NULL_LITERAL) {
            fault(4, node, "null");
        }
        if (kind == Kind.STRING_LITERAL || kind == Kind.FLOAT_LITERAL || kind == Kind.DOUBLE_LITERAL) {
            fault(2, node, "a literal of a type that is not allowed");
        }
        return super.visitLiteral(node, none);
    }

    // Rule 3: every name is the program's own

    @Override
    public Void visitIdentifier(IdentifierTree node, Void none) {
        lookAtName(node);
        return super.visitIdentifier(node, none);
    }

    @Override
    public Void visitMemberSelect(MemberSelectTree node, Void none) {
        boolean length = isArray(typeOf(node.getExpression())) && node.getIdentifier().contentEquals("length");
        if (!length) {
            lookAtName(node);
        }
        return super.visitMemberSelect(node, none);
    }

    private void lookAtName(Tree node) {
        // The compiler itself writes the call of super() into a constructor.
        if (node.toString().equals("super")) {
            return;
        }
        Element at = trees.getElement(getCurrentPath());
        while (at != null && !(at.getKind().isClass() || at.getKind().isInterface())) {
            at = at.getEnclosingElement();
        }
        if (at == null || !at.getSimpleName().contentEquals(NAME)) {
            fault(3, node, "a name from outside: " + node);
        }
    }

    // Rules 4 and 6: what is not used at all

    @Override
    public Void visitNewClass(NewClassTree node, Void none) {
        fault(4, node, "an object is made");
        return super.visitNewClass(node, none);
    }

    @Override
    public Void visitThrow(ThrowTree node, Void none) {
        fault(6, node, "throw");
        return super.visitThrow(node, none);
    }

    @Override
    public Void visitTry(TryTree node, Void none) {
        fault(6, node, "try");
        return super.visitTry(node, none);
    }

    @Override
    public Void visitSynchronized(SynchronizedTree node, Void none) {
        fault(6, node, "synchronized");
        return super.visitSynchronized(node, none);
    }

    @Override
    public Void visitAssert(AssertTree node, Void none) {
        fault(6, node, "assert");
        return super.visitAssert(node, none);
    }

    @Override
    public Void visitInstanceOf(InstanceOfTree node, Void none) {
        fault(6, node, "instanceof");
        return super.visitInstanceOf(node, none);
    }

    @Override
    public Void visitLambdaExpression(LambdaExpressionTree node, Void none) {
        fault(6, node, "a lambda");
        return super.visitLambdaExpression(node, none);
    }

    @Override
    public Void visitMemberReference(MemberReferenceTree node, Void none) {
        fault(6, node, "a method reference");
        return super.visitMemberReference(node, none);
    }

    @Override
    public Void visitTypeCast(TypeCastTree node, Void none) {
        if (!NUMBERS.contains(typeOf(node.getType()).getKind())) {
            fault(6, node, "a cast to " + node.getType());
        }
        return super.visitTypeCast(node, none);
    }

    // Rule 8: loops. Narrower than the rule: a for loop that counts one variable by one. What the
    // calls in its body do to its bound is not looked at.

    @Override
    public Void visitWhileLoop(WhileLoopTree node, Void none) {
        fault(8, node, "while, which this test does not look into");
        return super.visitWhileLoop(node, none);
    }

    @Override
    public Void visitDoWhileLoop(DoWhileLoopTree node, Void none) {
        fault(8, node, "do, which this test does not look into");
        return super.visitDoWhileLoop(node, none);
    }

    @Override
    public Void visitEnhancedForLoop(EnhancedForLoopTree node, Void none) {
        fault(8, node, "a loop over an array, which this test does not look into");
        return super.visitEnhancedForLoop(node, none);
    }

    @Override
    public Void visitForLoop(ForLoopTree node, Void none) {
        String counter = counterOf(node);
        if (counter == null) {
            fault(8, node, "a loop without a counter against a bound");
        } else {
            String bound = ((BinaryTree) node.getCondition()).getRightOperand().toString();
            lookForChanges(node, counter, bound);
        }
        return super.visitForLoop(node, none);
    }

    /** The counter that the loop's first line starts, compares with a bound and moves towards it. */
    private static String counterOf(ForLoopTree node) {
        boolean single = node.getInitializer().size() == 1 && node.getUpdate().size() == 1;
        if (!single || !(node.getInitializer().get(0) instanceof VariableTree)
                || !(node.getCondition() instanceof BinaryTree)) {
            return null;
        }
        String counter = ((VariableTree) node.getInitializer().get(0)).getName().toString();
        BinaryTree condition = (BinaryTree) node.getCondition();
        ExpressionStatementTree update = node.getUpdate().get(0);
        boolean up = condition.getKind() == Kind.LESS_THAN || condition.getKind() == Kind.LESS_THAN_EQUAL;
        boolean down = condition.getKind() == Kind.GREATER_THAN || condition.getKind() == Kind.GREATER_THAN_EQUAL;
        Kind step = up ? Kind.POSTFIX_INCREMENT : Kind.POSTFIX_DECREMENT;
        boolean named = condition.getLeftOperand().toString().equals(counter)
            && update.getExpression() instanceof UnaryTree
            && ((UnaryTree) update.getExpression()).getExpression().toString().equals(counter);
        boolean moves = (up || down) && update.getExpression().getKind() == step;
        boolean plainBound = condition.getRightOperand() instanceof IdentifierTree
            || condition.getRightOperand() instanceof LiteralTree;
        return named && moves && plainBound ? counter : null;
    }

    private void lookForChanges(ForLoopTree loop, String counter, String bound) {
        new TreePathScanner<Void, Void>() {
            private void changes(Tree variable) {
                String name = variable.toString();
                if (name.equals(counter) || name.equals(bound)) {
                    fault(8, variable, "a loop whose body changes " + name);
                }
            }

            @Override
            public Void visitAssignment(AssignmentTree node, Void none) {
                changes(node.getVariable());
                return super.visitAssignment(node, none);
            }

            @Override
            public Void visitCompoundAssignment(CompoundAssignmentTree node, Void none) {
                changes(node.getVariable());
                return super.visitCompoundAssignment(node, none);
            }

            @Override
            public Void visitUnary(UnaryTree node, Void none) {
                Kind kind = node.getKind();
                if (kind == Kind.PREFIX_INCREMENT || kind == Kind.PREFIX_DECREMENT
                        || kind == Kind.POSTFIX_INCREMENT || kind == Kind.POSTFIX_DECREMENT) {
                    changes(node.getExpression());
                }
                return super.visitUnary(node, none);
            }
        }.scan(new TreePath(getCurrentPath(), loop.getStatement()), null);
    }

    // Rules 8 and 10: methods and calls

    @Override
    public Void visitMethod(MethodTree node, Void none) {
        callsOf.putIfAbsent(node.getName().toString(), new TreeSet<>());
        if (node.getModifiers().getFlags().contains(Modifier.SYNCHRONIZED)) {
            fault(6, node, "synchronized");
        }
        if (node.getParameters().size() > MOST_PARAMETERS) {
            fault(10, node, "more than seven parameters");
        }
        if (lineOf(node, true) - lineOf(node, false) + 1 > MOST_LINES) {
            fault(10, node, "a long method");
        }
        if (node.getReturnType() != null) {
            TypeKind kind = typeOf(node.getReturnType()).getKind();
            if (kind != TypeKind.VOID && !NUMBERS.contains(kind)) {
                fault(kind == TypeKind.ARRAY ? 4 : 2, node, "a method that answers " + node.getReturnType());
            }
        }
        return super.visitMethod(node, none);
    }

    @Override
    public Void visitMethodInvocation(MethodInvocationTree node, Void none) {
        String called = trees.getElement(getCurrentPath()).getSimpleName().toString();
        callsOf.computeIfAbsent(methodAround(), name -> new TreeSet<>()).add(called);
        if (standsInArguments()) {
            fault(10, node, "a call inside the arguments of another call");
        }
        return super.visitMethodInvocation(node, none);
    }

    private String methodAround() {
        for (Tree around : getCurrentPath()) {
            if (around instanceof MethodTree) {
                return ((MethodTree) around).getName().toString();
            }
        }
        return "a field's initialiser";
    }

    private boolean standsInArguments() {
        Tree inner = null;
        for (Tree around : getCurrentPath()) {
            if (inner != null && around instanceof MethodInvocationTree
                    && ((MethodInvocationTree) around).getArguments().contains(inner)) {
                return true;
            }
            inner = around;
        }
        return false;
    }

    /** The number of methods in the longest chain of calls from here; tells of a chain that returns. */
    private int depthFrom(String method, List<String> chain) {
        if (chain.contains(method)) {
            fault(8, unit, "recursion: " + chain + " calls " + method);
            return 0;
        }
        chain.add(method);
        int deepest = 0;
        for (String called : callsOf.getOrDefault(method, new TreeSet<>())) {
            // The constructor's super() has the constructor's own name.
            if (!called.equals("<init>")) {
                deepest = Math.max(deepest, depthFrom(called, chain));
            }
        }
        chain.remove(method);
        return deepest + 1;
    }

    private void lookAtWhole() {
        for (String method : callsOf.keySet()) {
            int depth = depthFrom(method, new ArrayList<>());
            if (depth > MOST_DEEP) {
                fault(10, unit, method + " calls " + depth + " deep");
            }
        }
        if (fields > MOST_FIELDS) {
            fault(10, unit, fields + " fields");
        }
    }

    public static void main(String[] args) throws IOException {
        JavaCompiler compiler = ToolProvider.getSystemJavaCompiler();
        int faults;
        try (StandardJavaFileManager files = compiler.getStandardFileManager(null, null, null)) {
            JavacTask task = (JavacTask) compiler.getTask(null, files, null,
                List.of("--release", "17"), null, files.getJavaFileObjects(new File(PROGRAM)));
            CompilationUnitTree unit = task.parse().iterator().next();
            task.analyze();
            LanguageTest test = new LanguageTest(Trees.instance(task), unit);
            test.lookAtFile();
            test.scan(unit, null);
            test.lookAtWhole();
            faults = test.faults;
            System.out.println(test.callsOf.size() + " methods read, " + faults + " faults");
        }
        if (faults != 0) {
            System.exit(1);
        }
    }
}
