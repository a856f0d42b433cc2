import com.sun.source.tree.ArrayTypeTree;
import com.sun.source.tree.AssertTree;
import com.sun.source.tree.AssignmentTree;
import com.sun.source.tree.BinaryTree;
import com.sun.source.tree.ClassTree;
import com.sun.source.tree.CompilationUnitTree;
import com.sun.source.tree.CompoundAssignmentTree;
import com.sun.source.tree.DoWhileLoopTree;
import com.sun.source.tree.EnhancedForLoopTree;
import com.sun.source.tree.ExpressionTree;
import com.sun.source.tree.ForLoopTree;
import com.sun.source.tree.IdentifierTree;
import com.sun.source.tree.InstanceOfTree;
import com.sun.source.tree.LambdaExpressionTree;
import com.sun.source.tree.LiteralTree;
import com.sun.source.tree.MemberReferenceTree;
import com.sun.source.tree.MemberSelectTree;
import com.sun.source.tree.MethodInvocationTree;
import com.sun.source.tree.MethodTree;
import com.sun.source.tree.NewArrayTree;
import com.sun.source.tree.NewClassTree;
import com.sun.source.tree.PrimitiveTypeTree;
import com.sun.source.tree.SynchronizedTree;
import com.sun.source.tree.ThrowTree;
import com.sun.source.tree.Tree;
import com.sun.source.tree.TryTree;
import com.sun.source.tree.TypeCastTree;
import com.sun.source.tree.VariableTree;
import com.sun.source.tree.WhileLoopTree;
import com.sun.source.util.JavacTask;
import com.sun.source.util.SourcePositions;
import com.sun.source.util.TreePathScanner;
import com.sun.source.util.Trees;
import java.io.File;
import java.util.HashMap;
import java.util.HashSet;
import java.util.List;
import java.util.Map;
import java.util.Set;
import java.util.TreeSet;
import javax.lang.model.element.Modifier;
import javax.lang.model.type.TypeKind;
import javax.tools.JavaCompiler;
import javax.tools.StandardJavaFileManager;
import javax.tools.ToolProvider;

/**
 * The rules of LANGUAGE.md that show in the source, looked for in its tree.
 * Where a rule leaves more than the class uses (any loop, any divisor), this asks for the plainer form.
 */
public final class RnaFolderLanguage extends TreePathScanner<Void, Void> {
    private static final String SOURCE = "src/main/java/RnaFolder.java";
    private static final Set<TypeKind> NUMBERS = Set.of(
            TypeKind.INT, TypeKind.LONG, TypeKind.SHORT, TypeKind.BYTE, TypeKind.CHAR, TypeKind.BOOLEAN);

    private final CompilationUnitTree unit;
    private final SourcePositions positions;
    private final Set<String> methods = new HashSet<>();
    private final Set<String> constants = new HashSet<>();
    private final Set<String> arrays = new HashSet<>();
    private final Map<String, Set<String>> calls = new HashMap<>();
    private int fields = 0;
    private int wrong = 0;

    private RnaFolderLanguage(CompilationUnitTree unit, SourcePositions positions) {
        this.unit = unit;
        this.positions = positions;
    }

    public static void main(String[] args) throws Exception {
        JavaCompiler compiler = ToolProvider.getSystemJavaCompiler();
        try (StandardJavaFileManager files = compiler.getStandardFileManager(null, null, null)) {
            File source = new File(args.length > 0 ? args[0] : SOURCE);
            JavacTask task = (JavacTask) compiler.getTask(
                    null, files, null, List.of("-proc:none"), null, files.getJavaFileObjects(source));
            CompilationUnitTree unit = task.parse().iterator().next();
            RnaFolderLanguage look = new RnaFolderLanguage(unit, Trees.instance(task).getSourcePositions());
            look.all();
            System.out.println(look.wrong == 0 ? "the source keeps to the rules" : look.wrong + " things break a rule");
            if (look.wrong != 0) {
                System.exit(1);
            }
        }
    }

    private void rule(int number, Tree where, String what, boolean kept) {
        if (!kept) {
            wrong++;
            long line = lineOf(positions.getStartPosition(unit, where));
            System.out.println("rule " + number + ", line " + line + ": not so: " + what);
        }
    }

    private long lineOf(long position) {
        return unit.getLineMap().getLineNumber(position);
    }

    private void all() {
        rule(1, unit, "no package line", unit.getPackageName() == null);
        rule(3, unit, "nothing is imported", unit.getImports().isEmpty());
        rule(1, unit, "one class", unit.getTypeDecls().size() == 1);
        ClassTree top = (ClassTree) unit.getTypeDecls().get(0);
        rule(1, top, "public and final", top.getModifiers().getFlags().equals(Set.of(Modifier.PUBLIC, Modifier.FINAL)));
        top.getMembers().forEach(this::gather);
        rule(10, top, "at most forty fields", fields <= 40);
        scan(unit, null);
        for (String name : new TreeSet<>(methods)) {
            int depth = depthFrom(name, Set.of());
            rule(8, top, "no recursion through " + name, depth < 1000);
            rule(10, top, "calls go at most six deep from " + name, depth <= 6);
        }
    }

    /** What later looks need to know of the whole class. */
    private void gather(Tree member) {
        if (member instanceof MethodTree method) {
            String name = method.getName().toString();
            rule(1, member, name + " has a name of its own", methods.add(name));
        } else if (member instanceof VariableTree field) {
            gatherField(field);
        } else {
            rule(1, member, "no nested class and no initialiser block", false);
        }
    }

    private void gatherField(VariableTree field) {
        Set<Modifier> flags = field.getModifiers().getFlags();
        String name = field.getName().toString();
        rule(1, field, name + " is private", flags.contains(Modifier.PRIVATE));
        if (field.getType() instanceof ArrayTypeTree) {
            arrays.add(name);
        }
        if (!flags.contains(Modifier.STATIC)) {
            fields++;
            return;
        }
        boolean whole = field.getType() instanceof PrimitiveTypeTree type
                && (type.getPrimitiveTypeKind() == TypeKind.INT || type.getPrimitiveTypeKind() == TypeKind.LONG);
        rule(5, field, name + " is a constant of int or long",
                flags.contains(Modifier.FINAL) && whole && isNumber(field.getInitializer()));
        constants.add(name);
    }

    private static boolean isNumber(ExpressionTree value) {
        return value instanceof LiteralTree
                || value != null && value.getKind() == Tree.Kind.UNARY_MINUS;
    }

    private int depthFrom(String name, Set<String> above) {
        if (above.contains(name)) {
            return 1000;
        }
        Set<String> path = new HashSet<>(above);
        path.add(name);
        int deepest = 0;
        for (String called : calls.getOrDefault(name, Set.of())) {
            deepest = Math.max(deepest, depthFrom(called, path));
        }
        return 1 + deepest;
    }

    private boolean isWithin(Class<? extends Tree> kind) {
        for (Tree above : getCurrentPath().getParentPath()) {
            if (kind.isInstance(above)) {
                return true;
            }
        }
        return false;
    }

    private MethodTree methodAround() {
        for (Tree above : getCurrentPath()) {
            if (above instanceof MethodTree method) {
                return method;
            }
        }
        return null;
    }

    private static boolean isAllowed(Tree type) {
        Tree element = type instanceof ArrayTypeTree array ? array.getType() : type;
        return element instanceof PrimitiveTypeTree number && NUMBERS.contains(number.getPrimitiveTypeKind());
    }

    private boolean namesArray(Tree value) {
        return value instanceof IdentifierTree name && arrays.contains(name.getName().toString())
                || value instanceof MemberSelectTree member && arrays.contains(member.getIdentifier().toString());
    }

    @Override
    public Void visitMethod(MethodTree method, Void none) {
        String name = method.getName().toString();
        Tree answer = method.getReturnType();
        boolean nothing = answer == null
                || answer instanceof PrimitiveTypeTree type && type.getPrimitiveTypeKind() == TypeKind.VOID;
        rule(2, method, name + " answers a number or nothing", nothing || isAllowed(answer));
        rule(4, method, name + " answers no array", !(answer instanceof ArrayTypeTree));
        rule(6, method, name + " throws nothing", method.getThrows().isEmpty());
        rule(10, method, name + " takes at most seven", method.getParameters().size() <= 7);
        long lines = lineOf(positions.getEndPosition(unit, method)) - lineOf(positions.getStartPosition(unit, method));
        rule(10, method, name + " is short", lines < 60);
        return super.visitMethod(method, none);
    }

    @Override
    public Void visitVariable(VariableTree variable, Void none) {
        rule(2, variable, variable.getName() + " is a number or an array of them", isAllowed(variable.getType()));
        if (methodAround() != null && variable.getType() instanceof ArrayTypeTree) {
            arrays.add(variable.getName().toString());
        }
        return super.visitVariable(variable, none);
    }

    @Override
    public Void visitLiteral(LiteralTree literal, Void none) {
        Set<Tree.Kind> fine = Set.of(
                Tree.Kind.INT_LITERAL, Tree.Kind.LONG_LITERAL, Tree.Kind.CHAR_LITERAL, Tree.Kind.BOOLEAN_LITERAL);
        rule(2, literal, literal + " is a number", fine.contains(literal.getKind()));
        return super.visitLiteral(literal, none);
    }

    @Override
    public Void visitMemberSelect(MemberSelectTree member, Void none) {
        boolean own = member.getExpression() instanceof IdentifierTree of && of.getName().contentEquals("this");
        boolean length = namesArray(member.getExpression()) && member.getIdentifier().contentEquals("length");
        rule(3, member, member + " is of this class", own || length);
        return super.visitMemberSelect(member, none);
    }

    @Override
    public Void visitMethodInvocation(MethodInvocationTree call, Void none) {
        MethodTree from = methodAround();
        String name = call.getMethodSelect().toString().replaceFirst("^this\\.", "");
        rule(3, call, name + " is a method of this class", methods.contains(name));
        rule(4, call, "fields and the constructor call nothing", from != null && from.getReturnType() != null);
        if (from != null) {
            calls.computeIfAbsent(from.getName().toString(), n -> new TreeSet<>()).add(name);
        }
        rule(10, call, name + " is not called in the arguments of a call", !isWithin(MethodInvocationTree.class));
        return super.visitMethodInvocation(call, none);
    }

    @Override
    public Void visitNewArray(NewArrayTree made, Void none) {
        rule(4, made, "arrays are made in a field's initialiser", methodAround() == null);
        boolean fixed = made.getInitializers() == null && made.getDimensions().size() == 1
                && (made.getDimensions().get(0) instanceof LiteralTree
                || made.getDimensions().get(0) instanceof IdentifierTree name
                && constants.contains(name.getName().toString()));
        rule(4, made, "an array's length is a literal or a constant", fixed);
        return super.visitNewArray(made, none);
    }

    @Override
    public Void visitAssignment(AssignmentTree assignment, Void none) {
        rule(4, assignment, "no array is assigned", !namesArray(assignment.getVariable()));
        return super.visitAssignment(assignment, none);
    }

    @Override
    public Void visitBinary(BinaryTree binary, Void none) {
        rule(4, binary, "no array is compared",
                !namesArray(binary.getLeftOperand()) && !namesArray(binary.getRightOperand()));
        if (binary.getKind() == Tree.Kind.DIVIDE || binary.getKind() == Tree.Kind.REMAINDER) {
            rule(7, binary, "a divisor is a number other than 0", isSafeDivisor(binary.getRightOperand()));
        }
        return super.visitBinary(binary, none);
    }

    @Override
    public Void visitCompoundAssignment(CompoundAssignmentTree assignment, Void none) {
        Set<Tree.Kind> dividing = Set.of(Tree.Kind.DIVIDE_ASSIGNMENT, Tree.Kind.REMAINDER_ASSIGNMENT);
        if (dividing.contains(assignment.getKind())) {
            rule(7, assignment, "a divisor is a number other than 0", isSafeDivisor(assignment.getExpression()));
        }
        return super.visitCompoundAssignment(assignment, none);
    }

    private static boolean isSafeDivisor(ExpressionTree divisor) {
        return divisor instanceof LiteralTree literal && !literal.getValue().equals(0);
    }

    @Override
    public Void visitForLoop(ForLoopTree loop, Void none) {
        rule(8, loop, "a loop has a counter and a bound",
                loop.getCondition() != null && loop.getInitializer().size() == 1 && loop.getUpdate().size() == 1);
        return super.visitForLoop(loop, none);
    }

    @Override
    public Void visitWhileLoop(WhileLoopTree loop, Void none) {
        rule(8, loop, "a loop is a for with a counter", false);
        return super.visitWhileLoop(loop, none);
    }

    @Override
    public Void visitDoWhileLoop(DoWhileLoopTree loop, Void none) {
        rule(8, loop, "a loop is a for with a counter", false);
        return super.visitDoWhileLoop(loop, none);
    }

    @Override
    public Void visitEnhancedForLoop(EnhancedForLoopTree loop, Void none) {
        rule(8, loop, "a loop is a for with a counter", false);
        return super.visitEnhancedForLoop(loop, none);
    }

    @Override
    public Void visitTypeCast(TypeCastTree cast, Void none) {
        rule(6, cast, "a cast is to a number",
                cast.getType() instanceof PrimitiveTypeTree && isAllowed(cast.getType()));
        return super.visitTypeCast(cast, none);
    }

    @Override
    public Void visitNewClass(NewClassTree made, Void none) {
        rule(4, made, "no object is made", false);
        return super.visitNewClass(made, none);
    }

    @Override
    public Void visitThrow(ThrowTree tree, Void none) {
        rule(6, tree, "no throw", false);
        return super.visitThrow(tree, none);
    }

    @Override
    public Void visitTry(TryTree tree, Void none) {
        rule(6, tree, "no try", false);
        return super.visitTry(tree, none);
    }

    @Override
    public Void visitSynchronized(SynchronizedTree tree, Void none) {
        rule(6, tree, "no synchronized", false);
        return super.visitSynchronized(tree, none);
    }

    @Override
    public Void visitAssert(AssertTree tree, Void none) {
        rule(6, tree, "no assert", false);
        return super.visitAssert(tree, none);
    }

    @Override
    public Void visitInstanceOf(InstanceOfTree tree, Void none) {
        rule(6, tree, "no instanceof", false);
        return super.visitInstanceOf(tree, none);
    }

    @Override
    public Void visitLambdaExpression(LambdaExpressionTree tree, Void none) {
        rule(6, tree, "no lambda", false);
        return super.visitLambdaExpression(tree, none);
    }

    @Override
    public Void visitMemberReference(MemberReferenceTree tree, Void none) {
        rule(6, tree, "no method reference", false);
        return super.visitMemberReference(tree, none);
    }
}
