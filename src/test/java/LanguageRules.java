import com.sun.source.tree.ArrayTypeTree;
import com.sun.source.tree.AssignmentTree;
import com.sun.source.tree.BinaryTree;
import com.sun.source.tree.ClassTree;
import com.sun.source.tree.CompilationUnitTree;
import com.sun.source.tree.CompoundAssignmentTree;
import com.sun.source.tree.ExpressionTree;
import com.sun.source.tree.ForLoopTree;
import com.sun.source.tree.IdentifierTree;
import com.sun.source.tree.LiteralTree;
import com.sun.source.tree.MemberSelectTree;
import com.sun.source.tree.MethodInvocationTree;
import com.sun.source.tree.MethodTree;
import com.sun.source.tree.NewArrayTree;
import com.sun.source.tree.PrimitiveTypeTree;
import com.sun.source.tree.Tree;
import com.sun.source.tree.Tree.Kind;
import com.sun.source.tree.TypeCastTree;
import com.sun.source.tree.UnaryTree;
import com.sun.source.tree.VariableTree;
import com.sun.source.util.TreePathScanner;
import com.sun.source.util.TreeScanner;
import com.sun.source.util.Trees;
import java.util.ArrayList;
import java.util.EnumSet;
import java.util.HashSet;
import java.util.List;
import java.util.Map;
import java.util.Set;
import java.util.TreeMap;
import java.util.TreeSet;
import javax.lang.model.element.Modifier;
import javax.lang.model.type.TypeKind;

/**
 * Walks over a source and notes where it leaves LANGUAGE.md. Where a rule could be kept in several
 * ways, this asks for the way that the class takes: all arrays are made in field initialisers,
 * and all loops count up by a for. It does not see an array compared with another (rule 4).
 */
final class LanguageRules extends TreePathScanner<Void, Void> {
    private static final Set<TypeKind> NUMBERS = EnumSet.of(TypeKind.INT, TypeKind.LONG, TypeKind.SHORT,
        TypeKind.BYTE, TypeKind.CHAR, TypeKind.BOOLEAN);
    private static final Set<Kind> NUMBER_LITERALS = EnumSet.of(Kind.INT_LITERAL, Kind.LONG_LITERAL,
        Kind.CHAR_LITERAL, Kind.BOOLEAN_LITERAL);
    private static final Set<Kind> RULED_OUT = EnumSet.of(Kind.THROW, Kind.TRY, Kind.SYNCHRONIZED, Kind.ASSERT,
        Kind.INSTANCE_OF, Kind.LAMBDA_EXPRESSION, Kind.MEMBER_REFERENCE);
    private static final Set<Kind> OTHER_LOOPS = EnumSet.of(Kind.WHILE_LOOP, Kind.DO_WHILE_LOOP,
        Kind.ENHANCED_FOR_LOOP);

    private final Trees trees;
    private final Map<Integer, List<String>> broken = new TreeMap<>();
    private final Map<String, Set<String>> calls = new TreeMap<>();
    private final Set<String> publicNames = new TreeSet<>();
    private final Set<String> privateNames = new TreeSet<>();
    private final Set<String> constants = new TreeSet<>();
    private String method = "";

    LanguageRules(Trees trees) {
        this.trees = trees;
    }

    /** What breaks the rule, each with its line; empty if the rule is kept. */
    List<String> broken(int rule) {
        return broken.getOrDefault(rule, List.of());
    }

    @Override
    public Void visitCompilationUnit(CompilationUnitTree unit, Void nothing) {
        ask(1, unit.getPackageName() == null, unit, "has a package line");
        ask(1, unit.getTypeDecls().size() == 1, unit, "is not one class");
        ask(3, unit.getImports().isEmpty(), unit, "imports");
        super.visitCompilationUnit(unit, nothing);
        for (String name : privateNames) {
            ask(1, !publicNames.contains(name), unit, "private method " + name + " bears a public name");
        }
        for (Set<String> called : calls.values()) {
            for (String name : called) {
                boolean own = publicNames.contains(name) || privateNames.contains(name);
                ask(3, own, unit, "calls " + name + ", which is not its own");
            }
        }
        for (String name : calls.keySet()) {
            int depth = depth(name, new HashSet<>(), unit);
            ask(10, depth <= 6, unit, "calls from " + name + " go " + depth + " deep");
        }
        return nothing;
    }

    @Override
    public Void visitClass(ClassTree type, Void nothing) {
        boolean outermost = getCurrentPath().getParentPath().getLeaf() instanceof CompilationUnitTree;
        ask(1, outermost && type.getKind() == Kind.CLASS, type, "is not the one class");
        int fields = 0;
        for (Tree member : type.getMembers()) {
            ask(5, member.getKind() != Kind.BLOCK, member, "is an initialiser");
            if (member instanceof VariableTree) {
                fields += isStatic((VariableTree) member) ? 0 : 1;
                if (isStatic((VariableTree) member)) {
                    constants.add(((VariableTree) member).getName().toString());
                }
            }
        }
        ask(10, fields <= 40, type, "has " + fields + " fields");
        return super.visitClass(type, nothing);
    }

    @Override
    public Void visitMethod(MethodTree tree, Void nothing) {
        method = tree.getName().toString();
        boolean constructor = tree.getReturnType() == null;
        if (!constructor) {
            boolean hidden = tree.getModifiers().getFlags().contains(Modifier.PRIVATE);
            (hidden ? privateNames : publicNames).add(method);
            ask(4, isNumberOrVoid(tree.getReturnType()), tree, "answers no number");
        }
        ask(10, tree.getParameters().size() <= 7, tree, "takes more than seven parameters");
        long lines = lineAt(tree, true) - lineAt(tree, false) + 1;
        ask(10, lines <= 60, tree, "has " + lines + " lines");
        super.visitMethod(tree, nothing);
        method = "";
        return nothing;
    }

    @Override
    public Void visitVariable(VariableTree tree, Void nothing) {
        Tree type = tree.getType();
        boolean isArray = type instanceof ArrayTypeTree;
        Tree numbers = isArray ? ((ArrayTypeTree) type).getType() : type;
        ask(2, isNumber(numbers), tree, "is of another type");
        if (isStatic(tree)) {
            boolean literal = tree.getInitializer() instanceof LiteralTree;
            boolean fixed = tree.getModifiers().getFlags().contains(Modifier.FINAL);
            ask(5, literal && fixed && (isOf(type, TypeKind.INT) || isOf(type, TypeKind.LONG)), tree, "is no constant");
        } else if (isArray && isField()) {
            ask(4, tree.getModifiers().getFlags().contains(Modifier.FINAL), tree, "can be assigned to");
        }
        return super.visitVariable(tree, nothing);
    }

    @Override
    public Void visitNewArray(NewArrayTree tree, Void nothing) {
        Tree parent = getCurrentPath().getParentPath().getLeaf();
        ask(4, parent instanceof VariableTree && method.isEmpty(), tree, "is not in a field's initialiser");
        boolean oneLength = tree.getInitializers() == null && tree.getDimensions().size() == 1;
        ask(4, oneLength && isFixedLength(tree.getDimensions().get(0)), tree, "has no fixed length");
        return super.visitNewArray(tree, nothing);
    }

    private boolean isFixedLength(Tree length) {
        boolean constant = length instanceof IdentifierTree && constants.contains(length.toString());
        return constant || length.getKind() == Kind.INT_LITERAL && !length.toString().equals("0");
    }

    @Override
    public Void visitMethodInvocation(MethodInvocationTree call, Void nothing) {
        boolean own = call.getMethodSelect() instanceof IdentifierTree;
        ask(3, own, call, "calls on something else");
        calls.computeIfAbsent(method, name -> new TreeSet<>()).add(call.getMethodSelect().toString());
        for (Tree argument : call.getArguments()) {
            ask(10, !holdsCall(argument), call, "has a call in its arguments");
        }
        return super.visitMethodInvocation(call, nothing);
    }

    private static boolean holdsCall(Tree tree) {
        boolean[] found = {false};
        new TreeScanner<Void, Void>() {
            @Override
            public Void visitMethodInvocation(MethodInvocationTree call, Void nothing) {
                found[0] = true;
                return nothing;
            }
        }.scan(tree, null);
        return found[0];
    }

    @Override
    public Void visitMemberSelect(MemberSelectTree tree, Void nothing) {
        boolean own = tree.getExpression().toString().equals("this");
        ask(3, own || tree.getIdentifier().contentEquals("length"), tree, "reaches outside the class");
        return super.visitMemberSelect(tree, nothing);
    }

    @Override
    public Void visitTypeCast(TypeCastTree tree, Void nothing) {
        ask(6, isNumber(tree.getType()), tree, "is no cast between number types");
        return super.visitTypeCast(tree, nothing);
    }

    @Override
    public Void visitLiteral(LiteralTree tree, Void nothing) {
        ask(2, NUMBER_LITERALS.contains(tree.getKind()), tree, "is no whole number");
        return super.visitLiteral(tree, nothing);
    }

    @Override
    public Void scan(Tree tree, Void nothing) {
        if (tree != null) {
            ask(6, !RULED_OUT.contains(tree.getKind()), tree, "is ruled out");
            ask(4, tree.getKind() != Kind.NEW_CLASS, tree, "makes an object");
            ask(8, !OTHER_LOOPS.contains(tree.getKind()), tree, "is a loop without a counter");
        }
        return super.scan(tree, nothing);
    }

    /** Counter from 0, a condition that ends it at a bound, one up each time, and neither changed inside. */
    @Override
    public Void visitForLoop(ForLoopTree loop, Void nothing) {
        BinaryTree limit = firstOf(loop.getCondition());
        boolean hasLimit = limit != null && limit.getKind() == Kind.LESS_THAN;
        ask(8, hasLimit, loop, "has no counter against a bound");
        if (hasLimit) {
            String counter = limit.getLeftOperand().toString();
            String update = loop.getUpdate().toString().replaceAll("[^\\w+]", "");
            ask(8, loop.getInitializer().toString().equals("int " + counter + " = 0"), loop, "does not count from 0");
            ask(8, update.equals(counter + "++"), loop, "does not count one up");
            Set<String> changed = changedIn(loop.getStatement());
            ask(8, !changed.contains(counter), loop, "changes its counter");
            for (String name : limit.getRightOperand().toString().split("\\W+")) {
                ask(8, !changed.contains(name), loop, "changes its bound");
            }
            ask(8, !holdsCall(limit), loop, "calls for its bound");
        }
        return super.visitForLoop(loop, nothing);
    }

    /** The first of the conditions that must all hold. */
    private static BinaryTree firstOf(ExpressionTree condition) {
        ExpressionTree first = condition;
        while (first != null && first.getKind() == Kind.CONDITIONAL_AND) {
            first = ((BinaryTree) first).getLeftOperand();
        }
        return first instanceof BinaryTree ? (BinaryTree) first : null;
    }

    private static Set<String> changedIn(Tree body) {
        Set<String> changed = new HashSet<>();
        new TreeScanner<Void, Void>() {
            @Override
            public Void visitAssignment(AssignmentTree tree, Void nothing) {
                changed.add(tree.getVariable().toString());
                return super.visitAssignment(tree, nothing);
            }

            @Override
            public Void visitCompoundAssignment(CompoundAssignmentTree tree, Void nothing) {
                changed.add(tree.getVariable().toString());
                return super.visitCompoundAssignment(tree, nothing);
            }

            @Override
            public Void visitUnary(UnaryTree tree, Void nothing) {
                if (tree.getKind().name().endsWith("CREMENT")) {
                    changed.add(tree.getExpression().toString());
                }
                return super.visitUnary(tree, nothing);
            }
        }.scan(body, null);
        return changed;
    }

    /** How deep calls go from the method, itself counted; a way that comes back to itself is recursion. */
    private int depth(String name, Set<String> above, Tree unit) {
        if (!above.add(name)) {
            ask(8, false, unit, "recursion through " + name);
            return 0;
        }
        int deepest = 0;
        for (String called : calls.getOrDefault(name, Set.of())) {
            deepest = Math.max(deepest, depth(called, above, unit));
        }
        above.remove(name);
        return deepest + 1;
    }

    private boolean isField() {
        return getCurrentPath().getParentPath().getLeaf() instanceof ClassTree;
    }

    private static boolean isStatic(VariableTree tree) {
        return tree.getModifiers().getFlags().contains(Modifier.STATIC);
    }

    private static boolean isOf(Tree type, TypeKind kind) {
        return type instanceof PrimitiveTypeTree && ((PrimitiveTypeTree) type).getPrimitiveTypeKind() == kind;
    }

    private static boolean isNumber(Tree type) {
        return type instanceof PrimitiveTypeTree && NUMBERS.contains(((PrimitiveTypeTree) type).getPrimitiveTypeKind());
    }

    private static boolean isNumberOrVoid(Tree type) {
        return isNumber(type) || isOf(type, TypeKind.VOID);
    }

    private void ask(int rule, boolean kept, Tree tree, String why) {
        if (!kept) {
            String text = tree.toString().strip().lines().findFirst().orElse("");
            String note = "line " + lineAt(tree, false) + ": '" + text + "' " + why;
            broken.computeIfAbsent(rule, number -> new ArrayList<>()).add(note);
        }
    }

    private long lineAt(Tree tree, boolean end) {
        CompilationUnitTree unit = getCurrentPath() == null ? null : getCurrentPath().getCompilationUnit();
        if (unit == null) {
            return 0;
        }
        long at = end ? trees.getSourcePositions().getEndPosition(unit, tree)
            : trees.getSourcePositions().getStartPosition(unit, tree);
        return at < 0 ? 0 : unit.getLineMap().getLineNumber(at);
    }
}
