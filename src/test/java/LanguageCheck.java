import com.sun.source.tree.*;
import com.sun.source.util.JavacTask;
import com.sun.source.util.SourcePositions;
import com.sun.source.util.TreePath;
import com.sun.source.util.TreePathScanner;
import com.sun.source.util.TreeScanner;
import com.sun.source.util.Trees;
import java.io.IOException;
import java.io.UncheckedIOException;
import java.net.URI;
import java.util.ArrayDeque;
import java.util.ArrayList;
import java.util.Deque;
import java.util.EnumSet;
import java.util.HashSet;
import java.util.List;
import java.util.Map;
import java.util.Set;
import java.util.TreeMap;
import java.util.TreeSet;
import javax.lang.model.element.Modifier;
import javax.lang.model.type.TypeKind;
import javax.tools.JavaFileObject;
import javax.tools.SimpleJavaFileObject;
import javax.tools.ToolProvider;

/**
 * Holds a source text against those rules of ../shared/LANGUAGE.md that the text alone can show. Where the class does
 * with less than a rule leaves, the rule is held more strictly, since that is plainer to see: every loop is a for with
 * a counter of its own that goes up by one, arrays are made in the initialisers of fields alone, and an array's name
 * stands before an index or as an argument and nowhere else.
 */
final class LanguageCheck extends TreePathScanner<Void, Void> {
    private static final int MOST_PARAMETERS = 7;
    private static final int MOST_LINES = 60;
    private static final int MOST_DEEP = 6;
    private static final int MOST_FIELDS = 40;

    private static final Set<Class<? extends Tree>> PLAIN = Set.of(
        CompilationUnitTree.class, ClassTree.class, ModifiersTree.class, VariableTree.class, MethodTree.class,
        PrimitiveTypeTree.class, ArrayTypeTree.class, NewArrayTree.class, ArrayAccessTree.class, IdentifierTree.class,
        MethodInvocationTree.class, BlockTree.class, ExpressionStatementTree.class, ReturnTree.class, IfTree.class,
        ForLoopTree.class, SwitchTree.class, CaseTree.class, BreakTree.class, ContinueTree.class,
        LabeledStatementTree.class, ConditionalExpressionTree.class, ParenthesizedTree.class, TypeCastTree.class,
        LiteralTree.class, UnaryTree.class, BinaryTree.class, AssignmentTree.class, CompoundAssignmentTree.class);

    private static final Set<Tree.Kind> PLAIN_LITERALS = EnumSet.of(
        Tree.Kind.INT_LITERAL, Tree.Kind.LONG_LITERAL, Tree.Kind.CHAR_LITERAL, Tree.Kind.BOOLEAN_LITERAL);

    private static final Set<TypeKind> PLAIN_TYPES = EnumSet.of(
        TypeKind.INT, TypeKind.LONG, TypeKind.SHORT, TypeKind.BYTE, TypeKind.CHAR, TypeKind.BOOLEAN);

    private final CompilationUnitTree unit;
    private final SourcePositions positions;
    private final List<String> broken = new ArrayList<>();
    private final Set<String> constants = new HashSet<>();
    private final Set<String> arrays = new HashSet<>();
    private final Map<String, Set<String>> calls = new TreeMap<>();

    private LanguageCheck(CompilationUnitTree unit, SourcePositions positions) {
        this.unit = unit;
        this.positions = positions;
    }

    /** One line for each place where a rule is broken, which begins with the rule's number. */
    static List<String> brokenRules(String source) {
        JavacTask task = (JavacTask) ToolProvider.getSystemJavaCompiler()
            .getTask(null, null, null, null, null, List.of(new SourceText(source)));
        try {
            CompilationUnitTree unit = task.parse().iterator().next();
            return new LanguageCheck(unit, Trees.instance(task).getSourcePositions()).holdAll();
        } catch (IOException e) {
            throw new UncheckedIOException(e);
        }
    }

    private static final class SourceText extends SimpleJavaFileObject {
        private final String text;

        SourceText(String text) {
            super(URI.create("string:///BoxFilters.java"), JavaFileObject.Kind.SOURCE);
            this.text = text;
        }

        @Override
        public CharSequence getCharContent(boolean ignoreEncodingErrors) {
            return text;
        }
    }

    private List<String> holdAll() {
        if (unit.getPackage() != null || unit.getTypeDecls().size() != 1) {
            say(1, unit, "one class without a package");
        }
        if (!unit.getImports().isEmpty()) {
            say(3, unit, "nothing is imported");
        }
        for (Tree type : unit.getTypeDecls()) {
            if (type instanceof ClassTree) {
                learnNames((ClassTree) type);
                scan(new TreePath(new TreePath(unit), type), null);
            }
        }
        for (String method : calls.keySet()) {
            if (depth(method, new ArrayDeque<>()) > MOST_DEEP) {
                say(10, unit, "calls from " + method + " go too deep");
            }
        }
        return broken;
    }

    private void say(int rule, Tree tree, String what) {
        broken.add("rule " + rule + ", line " + lineOf(positions.getStartPosition(unit, tree)) + ": " + what);
    }

    private long lineOf(long position) {
        return position < 0 ? 0 : unit.getLineMap().getLineNumber(position);
    }

    private void learnNames(ClassTree type) {
        for (Tree member : type.getMembers()) {
            if (member instanceof VariableTree) {
                learnField((VariableTree) member);
            } else if (member instanceof MethodTree) {
                calls.put(((MethodTree) member).getName().toString(), new TreeSet<>());
                ((MethodTree) member).getParameters().forEach(this::learnArray);
            }
        }
    }

    private void learnField(VariableTree field) {
        learnArray(field);
        if (has(field.getModifiers(), Modifier.STATIC) && has(field.getModifiers(), Modifier.FINAL)) {
            constants.add(field.getName().toString());
        }
    }

    private void learnArray(VariableTree variable) {
        if (variable.getType() instanceof ArrayTypeTree) {
            arrays.add(variable.getName().toString());
        }
    }

    private static boolean has(ModifiersTree modifiers, Modifier modifier) {
        return modifiers.getFlags().contains(modifier);
    }

    @Override
    public Void scan(Tree tree, Void nothing) {
        if (tree != null && !PLAIN.contains(tree.getKind().asInterface())) {
            say(ruleAgainst(tree), tree, tree.getKind() + " is not used");
        }
        return super.scan(tree, nothing);
    }

    private static int ruleAgainst(Tree tree) {
        return switch (tree.getKind()) {
            case MEMBER_SELECT -> 3;
            case NEW_CLASS -> 4;
            case WHILE_LOOP, DO_WHILE_LOOP, ENHANCED_FOR_LOOP -> 8;
            default -> 6;
        };
    }

    @Override
    public Void visitClass(ClassTree type, Void nothing) {
        boolean outermost = getCurrentPath().getParentPath().getLeaf() == unit;
        boolean plain = type.getKind() == Tree.Kind.CLASS && type.getExtendsClause() == null
            && type.getImplementsClause().isEmpty() && type.getTypeParameters().isEmpty();
        if (!outermost || !plain) {
            say(1, type, "one class, that extends no other, and no other type");
        }
        if (!type.getModifiers().getFlags().equals(Set.of(Modifier.PUBLIC, Modifier.FINAL))) {
            say(1, type, "the class is public and final");
        }
        holdMethodNames(type);
        long fields = type.getMembers().stream()
            .filter(m -> m instanceof VariableTree && !has(((VariableTree) m).getModifiers(), Modifier.STATIC)).count();
        if (fields > MOST_FIELDS) {
            say(10, type, fields + " fields");
        }
        type.getMembers().stream().filter(m -> m instanceof BlockTree).forEach(m -> say(5, m, "no initialiser block"));
        return super.visitClass(type, nothing);
    }

    private void holdMethodNames(ClassTree type) {
        Set<String> seenNames = new HashSet<>();
        for (Tree member : type.getMembers()) {
            if (member instanceof MethodTree && !seenNames.add(((MethodTree) member).getName().toString())) {
                say(1, member, "two methods have one name");
            }
        }
    }

    @Override
    public Void visitMethod(MethodTree method, Void nothing) {
        if (method.getReturnType() != null && !isVoid(method.getReturnType())) {
            holdType(method.getReturnType(), false);
        }
        if (method.getParameters().size() > MOST_PARAMETERS) {
            say(10, method, "too many parameters");
        }
        long first = lineOf(positions.getStartPosition(unit, method));
        long last = lineOf(positions.getEndPosition(unit, method));
        if (last - first + 1 > MOST_LINES) {
            say(10, method, "a method of " + (last - first + 1) + " lines");
        }
        return super.visitMethod(method, nothing);
    }

    private static boolean isVoid(Tree type) {
        return type instanceof PrimitiveTypeTree && ((PrimitiveTypeTree) type).getPrimitiveTypeKind() == TypeKind.VOID;
    }

    private void holdType(Tree type, boolean mayBeArray) {
        Tree number = type instanceof ArrayTypeTree && mayBeArray ? ((ArrayTypeTree) type).getType() : type;
        if (!(number instanceof PrimitiveTypeTree)
                || !PLAIN_TYPES.contains(((PrimitiveTypeTree) number).getPrimitiveTypeKind())) {
            say(type instanceof ArrayTypeTree ? 4 : 2, type, "the type " + type);
        }
    }

    @Override
    public Void visitVariable(VariableTree variable, Void nothing) {
        Tree parent = getCurrentPath().getParentPath().getLeaf();
        holdType(variable.getType(), parent instanceof ClassTree || parent instanceof MethodTree);
        if (has(variable.getModifiers(), Modifier.STATIC)) {
            holdConstant(variable);
        }
        return super.visitVariable(variable, nothing);
    }

    private void holdConstant(VariableTree field) {
        boolean number = Set.of("int", "long").contains(field.getType().toString());
        if (!number || !has(field.getModifiers(), Modifier.FINAL) || !isConstant(field.getInitializer())) {
            say(5, field, field.getName() + " is no constant of int or long");
        }
    }

    private boolean isConstant(Tree value) {
        if (value instanceof BinaryTree) {
            BinaryTree two = (BinaryTree) value;
            return isConstant(two.getLeftOperand()) && isConstant(two.getRightOperand());
        }
        if (value instanceof UnaryTree) {
            return isConstant(((UnaryTree) value).getExpression());
        }
        return value instanceof LiteralTree || value instanceof IdentifierTree && constants.contains(value.toString());
    }

    @Override
    public Void visitLiteral(LiteralTree literal, Void nothing) {
        if (!PLAIN_LITERALS.contains(literal.getKind())) {
            say(2, literal, literal.getKind() + " is not used");
        }
        return super.visitLiteral(literal, nothing);
    }

    @Override
    public Void visitTypeCast(TypeCastTree cast, Void nothing) {
        holdType(cast.getType(), false);
        return super.visitTypeCast(cast, nothing);
    }

    @Override
    public Void visitNewArray(NewArrayTree array, Void nothing) {
        TreePath field = getCurrentPath().getParentPath();
        boolean ofField = field.getLeaf() instanceof VariableTree && field.getParentPath().getLeaf() instanceof ClassTree;
        if (!ofField || array.getDimensions().size() != 1 || !isConstant(array.getDimensions().get(0))) {
            say(4, array, "an array is made by a field's initialiser, with a constant length");
        }
        return super.visitNewArray(array, nothing);
    }

    @Override
    public Void visitIdentifier(IdentifierTree name, Void nothing) {
        Tree parent = getCurrentPath().getParentPath().getLeaf();
        boolean indexed = parent instanceof ArrayAccessTree && ((ArrayAccessTree) parent).getExpression() == name;
        boolean handedOver = parent instanceof MethodInvocationTree;
        if (arrays.contains(name.toString()) && !indexed && !handedOver) {
            say(4, name, name + " stands neither before an index nor as an argument");
        }
        return super.visitIdentifier(name, nothing);
    }

    @Override
    public Void visitMethodInvocation(MethodInvocationTree call, Void nothing) {
        String called = call.getMethodSelect().toString();
        if (!calls.containsKey(called)) {
            say(3, call, called + " is no method of the class");
        }
        for (TreePath above = getCurrentPath().getParentPath(); above != null; above = above.getParentPath()) {
            if (above.getLeaf() instanceof MethodInvocationTree) {
                say(10, call, "a call inside the arguments of another");
            }
            if (above.getLeaf() instanceof MethodTree) {
                calls.get(((MethodTree) above.getLeaf()).getName().toString()).add(called);
            }
        }
        return super.visitMethodInvocation(call, nothing);
    }

    private int depth(String method, Deque<String> above) {
        if (above.contains(method)) {
            say(8, unit, method + " calls itself");
            return 0;
        }
        above.push(method);
        int deepest = 0;
        for (String called : calls.getOrDefault(method, Set.of())) {
            deepest = Math.max(deepest, depth(called, above));
        }
        above.pop();
        return deepest + 1;
    }

    @Override
    public Void visitBinary(BinaryTree two, Void nothing) {
        boolean divides = two.getKind() == Tree.Kind.DIVIDE || two.getKind() == Tree.Kind.REMAINDER;
        if (divides && !isConstant(two.getRightOperand()) && !isLookedAt(two)) {
            say(7, two, "the divisor " + two.getRightOperand() + " is not looked at");
        }
        return super.visitBinary(two, nothing);
    }

    private boolean isLookedAt(BinaryTree division) {
        Tree parent = getCurrentPath().getParentPath().getLeaf();
        return parent instanceof ConditionalExpressionTree
            && ((ConditionalExpressionTree) parent).getTrueExpression() == division
            && ((ConditionalExpressionTree) parent).getCondition().toString().equals(division.getRightOperand() + " > 0");
    }

    @Override
    public Void visitCompoundAssignment(CompoundAssignmentTree change, Void nothing) {
        boolean divides = change.getKind() == Tree.Kind.DIVIDE_ASSIGNMENT
            || change.getKind() == Tree.Kind.REMAINDER_ASSIGNMENT;
        if (divides && !isConstant(change.getExpression())) {
            say(7, change, "the divisor " + change.getExpression() + " is not looked at");
        }
        return super.visitCompoundAssignment(change, nothing);
    }

    @Override
    public Void visitForLoop(ForLoopTree loop, Void nothing) {
        boolean one = loop.getInitializer().size() == 1 && loop.getInitializer().get(0) instanceof VariableTree
            && loop.getUpdate().size() == 1;
        if (!one || !isCounted(loop, ((VariableTree) loop.getInitializer().get(0)).getName().toString())) {
            say(8, loop, "the loop has no counter of its own that goes up to a bound");
        }
        return super.visitForLoop(loop, nothing);
    }

    private static boolean isCounted(ForLoopTree loop, String counter) {
        boolean goesUp = loop.getUpdate().get(0).toString().equals(counter + "++;");
        return goesUp && endsAtABound(loop.getCondition(), counter) && !Changes.of(counter, loop.getStatement());
    }

    private static boolean endsAtABound(Tree condition, String counter) {
        if (!(condition instanceof BinaryTree)) {
            return false;
        }
        BinaryTree two = (BinaryTree) condition;
        if (two.getKind() == Tree.Kind.CONDITIONAL_AND) {
            return endsAtABound(two.getLeftOperand(), counter) || endsAtABound(two.getRightOperand(), counter);
        }
        boolean below = two.getKind() == Tree.Kind.LESS_THAN || two.getKind() == Tree.Kind.LESS_THAN_EQUAL;
        return below && two.getLeftOperand().toString().equals(counter);
    }

    /** Looks for a change of one variable inside a statement. */
    private static final class Changes extends TreeScanner<Boolean, String> {
        static boolean of(String name, Tree statement) {
            return Boolean.TRUE.equals(new Changes().scan(statement, name));
        }

        @Override
        public Boolean visitAssignment(AssignmentTree change, String name) {
            return reduce(change.getVariable().toString().equals(name), super.visitAssignment(change, name));
        }

        @Override
        public Boolean visitCompoundAssignment(CompoundAssignmentTree change, String name) {
            return reduce(change.getVariable().toString().equals(name), super.visitCompoundAssignment(change, name));
        }

        @Override
        public Boolean visitUnary(UnaryTree unary, String name) {
            boolean changes = unary.getKind().name().endsWith("INCREMENT") || unary.getKind().name().endsWith("DECREMENT");
            return reduce(changes && unary.getExpression().toString().equals(name), super.visitUnary(unary, name));
        }

        @Override
        public Boolean reduce(Boolean one, Boolean other) {
            return Boolean.TRUE.equals(one) || Boolean.TRUE.equals(other);
        }
    }
}
