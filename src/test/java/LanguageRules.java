import com.sun.source.tree.*;
import com.sun.source.util.JavacTask;
import com.sun.source.util.SourcePositions;
import com.sun.source.util.TreePathScanner;
import com.sun.source.util.TreeScanner;
import com.sun.source.util.Trees;
import java.io.IOException;
import java.net.URI;
import java.util.ArrayList;
import java.util.List;
import java.util.Map;
import java.util.Set;
import java.util.TreeMap;
import java.util.TreeSet;
import javax.lang.model.element.Modifier;
import javax.lang.model.type.TypeKind;
import javax.tools.DiagnosticCollector;
import javax.tools.JavaFileObject;
import javax.tools.SimpleJavaFileObject;
import javax.tools.ToolProvider;

/**
 * Finds what stands in a source outside ../shared/LANGUAGE.md, as far as its words tell that without being run.
 *
 * In two places it is narrower than the rules, as the class needs no more: arrays are made in fields' initialisers
 * alone and get no second name but a parameter's (rule 4), and every loop is a for with a counter (rule 8). The members
 * that can be seen from outside (rule 1) are FaceTest's. Whether each index was looked at (rule 7) can't be told so:
 * that is for the tests that call the class.
 */
final class LanguageRules extends TreePathScanner<Void, Void> {
    private static final int MOST_PARAMETERS = 7;
    private static final int MOST_LINES = 60;
    private static final int MOST_CALLS_DEEP = 6;
    private static final int MOST_FIELDS = 40;

    private static final Map<Tree.Kind, Integer> RULE_AGAINST = Map.ofEntries(
        Map.entry(Tree.Kind.STRING_LITERAL, 2), Map.entry(Tree.Kind.FLOAT_LITERAL, 2),
        Map.entry(Tree.Kind.DOUBLE_LITERAL, 2), Map.entry(Tree.Kind.ANNOTATION, 3),
        Map.entry(Tree.Kind.NEW_CLASS, 4), Map.entry(Tree.Kind.NULL_LITERAL, 4),
        Map.entry(Tree.Kind.THROW, 6), Map.entry(Tree.Kind.TRY, 6), Map.entry(Tree.Kind.SYNCHRONIZED, 6),
        Map.entry(Tree.Kind.ASSERT, 6), Map.entry(Tree.Kind.INSTANCE_OF, 6),
        Map.entry(Tree.Kind.LAMBDA_EXPRESSION, 6), Map.entry(Tree.Kind.MEMBER_REFERENCE, 6),
        Map.entry(Tree.Kind.WHILE_LOOP, 8), Map.entry(Tree.Kind.DO_WHILE_LOOP, 8));

    private final List<String> breaches = new ArrayList<>();
    private final Map<String, Set<String>> callsOf = new TreeMap<>();
    private final Set<String> constants = new TreeSet<>();
    private final Set<String> arrays = new TreeSet<>();
    private final CompilationUnitTree unit;
    private final SourcePositions positions;
    private String method = "";

    private LanguageRules(CompilationUnitTree unit, SourcePositions positions) {
        this.unit = unit;
        this.positions = positions;
    }

    /** Each breach as a text that begins with the rule's number. */
    static List<String> breachesIn(String source) throws IOException {
        DiagnosticCollector<JavaFileObject> errors = new DiagnosticCollector<>();
        JavacTask task = (JavacTask) ToolProvider.getSystemJavaCompiler().getTask(
            null, null, errors, List.of("--release", "17"), null, List.of(fileOf(source)));
        CompilationUnitTree unit = task.parse().iterator().next();
        if (!errors.getDiagnostics().isEmpty()) {
            return List.of("0 no Java: " + errors.getDiagnostics());
        }
        LanguageRules rules = new LanguageRules(unit, Trees.instance(task).getSourcePositions());
        rules.scan(unit, null);
        rules.lookAtCalls();
        return rules.breaches;
    }

    private static JavaFileObject fileOf(String source) {
        URI name = URI.create("string:///Source.java");
        return new SimpleJavaFileObject(name, JavaFileObject.Kind.SOURCE) {
            @Override
            public CharSequence getCharContent(boolean ignoreEncodingErrors) {
                return source;
            }
        };
    }

    private void breach(int rule, Tree tree) {
        breaches.add(rule + " line " + lineOf(positions.getStartPosition(unit, tree)) + ": "
            + tree.toString().strip().lines().findFirst().orElse(""));
    }

    private long lineOf(long position) {
        return unit.getLineMap().getLineNumber(position);
    }

    private void breachUnless(boolean asDue, int rule, Tree tree) {
        if (!asDue) {
            breach(rule, tree);
        }
    }

    private Tree parent() {
        return getCurrentPath().getParentPath().getLeaf();
    }

    private static boolean isStatic(VariableTree variable) {
        return variable.getModifiers().getFlags().contains(Modifier.STATIC);
    }

    /** What may not stand anywhere, whatever is around it. */
    @Override
    public Void scan(Tree tree, Void none) {
        if (tree != null && RULE_AGAINST.containsKey(tree.getKind())) {
            breach(RULE_AGAINST.get(tree.getKind()), tree);
        }
        return super.scan(tree, none);
    }

    // Rule 1, and what rule 3 says of imports

    @Override
    public Void visitCompilationUnit(CompilationUnitTree tree, Void none) {
        breachUnless(tree.getPackageName() == null, 1, tree);
        breachUnless(tree.getTypeDecls().size() == 1, 1, tree);
        breachUnless(tree.getImports().isEmpty(), 3, tree);
        return super.visitCompilationUnit(tree, none);
    }

    @Override
    public Void visitClass(ClassTree tree, Void none) {
        breachUnless(parent() == unit && tree.getKind() == Tree.Kind.CLASS, 1, tree);
        breachUnless(tree.getTypeParameters().isEmpty(), 2, tree);
        breachUnless(tree.getExtendsClause() == null && tree.getImplementsClause().isEmpty(), 3, tree);
        int fields = 0;
        for (Tree member : tree.getMembers()) {
            if (member instanceof VariableTree) {
                VariableTree field = (VariableTree) member;
                noteName(field);
                fields += isStatic(field) ? 0 : 1;
            } else if (member instanceof MethodTree) {
                callsOf.put(((MethodTree) member).getName().toString(), new TreeSet<>());
            }
        }
        breachUnless(fields <= MOST_FIELDS, 10, tree);
        return super.visitClass(tree, none);
    }

    private void noteName(VariableTree variable) {
        if (variable.getType() instanceof ArrayTypeTree) {
            arrays.add(variable.getName().toString());
        } else if (isStatic(variable)) {
            constants.add(variable.getName().toString());
        }
    }

    // Rule 2: types

    private void lookAtType(Tree type, Tree where) {
        breachUnless(type instanceof PrimitiveTypeTree || type instanceof ArrayTypeTree, 2, where);
    }

    @Override
    public Void visitPrimitiveType(PrimitiveTypeTree tree, Void none) {
        TypeKind kind = tree.getPrimitiveTypeKind();
        breachUnless(kind != TypeKind.FLOAT && kind != TypeKind.DOUBLE, 2, tree);
        return super.visitPrimitiveType(tree, none);
    }

    @Override
    public Void visitArrayType(ArrayTypeTree tree, Void none) {
        breachUnless(tree.getType() instanceof PrimitiveTypeTree, 2, tree);
        return super.visitArrayType(tree, none);
    }

    // Rule 3: nothing of the library has a name here, so all that a dot can stand for is this object or a length

    @Override
    public Void visitMemberSelect(MemberSelectTree tree, Void none) {
        String of = tree.getExpression().toString();
        boolean length = arrays.contains(of) && tree.getIdentifier().contentEquals("length");
        breachUnless(of.equals("this") || length, 3, tree);
        return super.visitMemberSelect(tree, none);
    }

    // Rules 4 and 5: fields and arrays

    @Override
    public Void visitVariable(VariableTree tree, Void none) {
        noteName(tree);
        lookAtType(tree.getType(), tree);
        if (parent() instanceof ClassTree && tree.getType() instanceof ArrayTypeTree) {
            breachUnless(tree.getInitializer() instanceof NewArrayTree, 4, tree);
        }
        if (isStatic(tree)) {
            boolean fixed = tree.getModifiers().getFlags().contains(Modifier.FINAL);
            String type = tree.getType().toString();
            boolean whole = type.equals("int") || type.equals("long");
            breachUnless(fixed && whole && isConstant(tree.getInitializer()), 5, tree);
        }
        return super.visitVariable(tree, none);
    }

    private boolean isConstant(Tree tree) {
        if (tree instanceof BinaryTree) {
            BinaryTree both = (BinaryTree) tree;
            return isConstant(both.getLeftOperand()) && isConstant(both.getRightOperand());
        }
        if (tree instanceof UnaryTree) {
            return isConstant(((UnaryTree) tree).getExpression());
        }
        return tree instanceof LiteralTree || tree instanceof IdentifierTree && constants.contains(tree.toString());
    }

    @Override
    public Void visitBlock(BlockTree tree, Void none) {
        breachUnless(!tree.isStatic(), 5, tree);
        return super.visitBlock(tree, none);
    }

    @Override
    public Void visitNewArray(NewArrayTree tree, Void none) {
        boolean inField = method.isEmpty() && parent() instanceof VariableTree;
        boolean oneLength = tree.getInitializers() == null && tree.getDimensions().size() == 1;
        breachUnless(inField && oneLength && isLength(tree.getDimensions().get(0)), 4, tree);
        return super.visitNewArray(tree, none);
    }

    private boolean isLength(Tree tree) {
        return tree.getKind() == Tree.Kind.INT_LITERAL && !tree.toString().equals("0")
            || tree instanceof IdentifierTree && constants.contains(tree.toString());
    }

    /** An array's name stands before an index, before .length or among the arguments of a call, and nowhere else. */
    @Override
    public Void visitIdentifier(IdentifierTree tree, Void none) {
        if (arrays.contains(tree.getName().toString())) {
            Tree user = parent();
            boolean indexed = user instanceof ArrayAccessTree && ((ArrayAccessTree) user).getExpression() == tree;
            boolean handed = user instanceof MethodInvocationTree || user instanceof MemberSelectTree;
            breachUnless(indexed || handed, 4, user);
        }
        return super.visitIdentifier(tree, none);
    }

    // Rule 6: casts

    @Override
    public Void visitTypeCast(TypeCastTree tree, Void none) {
        breachUnless(tree.getType() instanceof PrimitiveTypeTree, 6, tree);
        return super.visitTypeCast(tree, none);
    }

    // Rule 7: a divisor that can be seen not to be 0

    private void lookAtDivisor(Tree.Kind kind, Tree divisor, Tree where) {
        switch (kind) {
            case DIVIDE: case REMAINDER: case DIVIDE_ASSIGNMENT: case REMAINDER_ASSIGNMENT:
                breachUnless(isLength(divisor), 7, where);
                break;
            default:
                break;
        }
    }

    @Override
    public Void visitBinary(BinaryTree tree, Void none) {
        lookAtDivisor(tree.getKind(), tree.getRightOperand(), tree);
        return super.visitBinary(tree, none);
    }

    @Override
    public Void visitCompoundAssignment(CompoundAssignmentTree tree, Void none) {
        lookAtDivisor(tree.getKind(), tree.getExpression(), tree);
        return super.visitCompoundAssignment(tree, none);
    }

    // Rule 8: loops; recursion is found among the calls

    @Override
    public Void visitForLoop(ForLoopTree tree, Void none) {
        breachUnless(counts(tree), 8, tree);
        return super.visitForLoop(tree, none);
    }

    private static boolean counts(ForLoopTree loop) {
        if (loop.getInitializer().size() != 1 || !(loop.getInitializer().get(0) instanceof VariableTree)) {
            return false;
        }
        String counter = ((VariableTree) loop.getInitializer().get(0)).getName().toString();
        boolean goesUp = loop.getUpdate().size() == 1 && loop.getUpdate().get(0).toString().startsWith(counter + "++");
        return goesUp && staysBelow(counter, loop.getCondition()) && !changes(counter, loop.getStatement());
    }

    private static boolean staysBelow(String counter, Tree condition) {
        if (condition instanceof ParenthesizedTree) {
            return staysBelow(counter, ((ParenthesizedTree) condition).getExpression());
        }
        if (!(condition instanceof BinaryTree)) {
            return false;
        }
        BinaryTree both = (BinaryTree) condition;
        if (both.getKind() == Tree.Kind.CONDITIONAL_AND) {
            return staysBelow(counter, both.getLeftOperand()) || staysBelow(counter, both.getRightOperand());
        }
        return both.getKind() == Tree.Kind.LESS_THAN && both.getLeftOperand().toString().equals(counter);
    }

    private static boolean changes(String counter, Tree body) {
        boolean[] found = {false};
        new TreeScanner<Void, Void>() {
            @Override
            public Void visitAssignment(AssignmentTree tree, Void none) {
                found[0] |= tree.getVariable().toString().equals(counter);
                return super.visitAssignment(tree, none);
            }

            @Override
            public Void visitCompoundAssignment(CompoundAssignmentTree tree, Void none) {
                found[0] |= tree.getVariable().toString().equals(counter);
                return super.visitCompoundAssignment(tree, none);
            }

            @Override
            public Void visitUnary(UnaryTree tree, Void none) {
                found[0] |= tree.getExpression().toString().equals(counter)
                    && (tree.toString().contains("++") || tree.toString().contains("--"));
                return super.visitUnary(tree, none);
            }
        }.scan(body, null);
        return found[0];
    }

    // Rule 10, and recursion

    @Override
    public Void visitMethod(MethodTree tree, Void none) {
        method = tree.getName().toString();
        long first = lineOf(positions.getStartPosition(unit, tree));
        long last = lineOf(positions.getEndPosition(unit, tree));
        breachUnless(tree.getParameters().size() <= MOST_PARAMETERS && last - first < MOST_LINES, 10, tree);
        breachUnless(tree.getThrows().isEmpty(), 6, tree);
        breachUnless(tree.getTypeParameters().isEmpty(), 2, tree);
        breachUnless(!(tree.getReturnType() instanceof ArrayTypeTree), 4, tree);
        if (tree.getReturnType() != null) {
            lookAtType(tree.getReturnType(), tree);
        }
        super.visitMethod(tree, none);
        method = "";
        return null;
    }

    @Override
    public Void visitMethodInvocation(MethodInvocationTree tree, Void none) {
        String called = tree.getMethodSelect().toString();
        if (callsOf.containsKey(called)) {
            callsOf.computeIfAbsent(method, name -> new TreeSet<>()).add(called);
        } else {
            breach(3, tree);
        }
        for (Tree argument : tree.getArguments()) {
            breachUnless(!hasCall(argument), 10, tree);
        }
        return super.visitMethodInvocation(tree, none);
    }

    private static boolean hasCall(Tree argument) {
        boolean[] found = {false};
        new TreeScanner<Void, Void>() {
            @Override
            public Void visitMethodInvocation(MethodInvocationTree tree, Void none) {
                found[0] = true;
                return null;
            }
        }.scan(argument, null);
        return found[0];
    }

    private void lookAtCalls() {
        for (String name : callsOf.keySet()) {
            follow(name, new ArrayList<>());
        }
    }

    private void follow(String name, List<String> callers) {
        List<String> path = new ArrayList<>(callers);
        path.add(name);
        if (callers.contains(name)) {
            breaches.add("8 recursion: " + path);
        } else if (path.size() > MOST_CALLS_DEEP) {
            breaches.add("10 calls too deep: " + path);
        } else {
            for (String called : callsOf.get(name)) {
                follow(called, path);
            }
        }
    }
}
