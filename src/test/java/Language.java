import com.sun.source.tree.*;
import com.sun.source.util.JavacTask;
import com.sun.source.util.TreePath;
import com.sun.source.util.TreePathScanner;
import com.sun.source.util.TreeScanner;
import com.sun.source.util.Trees;
import java.io.IOException;
import java.io.UncheckedIOException;
import java.net.URI;
import java.util.ArrayList;
import java.util.HashMap;
import java.util.HashSet;
import java.util.List;
import java.util.Map;
import java.util.Set;
import java.util.TreeSet;
import javax.lang.model.element.Modifier;
import javax.lang.model.type.TypeKind;
import javax.tools.DiagnosticCollector;
import javax.tools.JavaCompiler;
import javax.tools.JavaFileObject;
import javax.tools.SimpleJavaFileObject;
import javax.tools.ToolProvider;

/**
 * Finds what in a source breaks ../shared/LANGUAGE.md, as far as the text alone shows it.
 * It is narrower than the rules where the class does not need all that they allow: arrays are made in
 * fields' initialisers alone and no variable is set to another array (rule 4), a divisor is a number or a
 * constant (rule 7), and every loop is a for whose own counter goes up by one below a bound, or down by
 * one to a bound, and is left alone by its body (rule 8). It does not see whether an index is looked at
 * before it is used (rule 7), nor whether a loop's bound changes inside the loop (rule 8).
 */
final class Language extends TreePathScanner<Void, Void> {
    private static final Set<TypeKind> NUMBERS =
        Set.of(TypeKind.INT, TypeKind.LONG, TypeKind.SHORT, TypeKind.BYTE, TypeKind.CHAR);
    private static final int MOST_PARAMETERS = 7;
    private static final int MOST_LINES = 60;
    private static final int MOST_DEEP = 6;
    private static final int MOST_FIELDS = 40;

    private final List<String> broken = new ArrayList<>();
    private final Set<String> constants = new HashSet<>();
    private final Set<String> arrays = new HashSet<>();
    private final Map<String, Set<String>> calls = new HashMap<>();
    private final CompilationUnitTree unit;
    private final Trees trees;

    private Language(CompilationUnitTree unit, Trees trees) {
        this.unit = unit;
        this.trees = trees;
    }

    /** The rules that this source breaks, each with the line and what was found there. */
    static List<String> brokenBy(String source) {
        DiagnosticCollector<JavaFileObject> errors = new DiagnosticCollector<>();
        JavaCompiler compiler = ToolProvider.getSystemJavaCompiler();
        JavacTask task = (JavacTask) compiler.getTask(null, null, errors, null, null, List.of(inMemory(source)));
        try {
            CompilationUnitTree unit = task.parse().iterator().next();
            Language language = new Language(unit, Trees.instance(task));
            language.scan(new TreePath(unit), null);
            language.checkCalls();
            errors.getDiagnostics().forEach(error -> language.broken.add("not Java: " + error));
            return language.broken;
        } catch (IOException e) {
            throw new UncheckedIOException(e);
        }
    }

    private static JavaFileObject inMemory(String source) {
        return new SimpleJavaFileObject(URI.create("string:///SyntheticChain.java"), JavaFileObject.Kind.SOURCE) {
            @Override
            public CharSequence getCharContent(boolean ignoreErrors) {
                return source;
            }
        };
    }

    private void breaks(int rule, Tree at, String what) {
        broken.add("rule " + rule + ", line " + lineOf(trees.getSourcePositions().getStartPosition(unit, at)) + ": " + what);
    }

    private void breaksIf(boolean bad, int rule, Tree at, String what) {
        if (bad) {
            breaks(rule, at, what);
        }
    }

    private long lineOf(long position) {
        return unit.getLineMap().getLineNumber(position);
    }

    private Tree parent() {
        return getCurrentPath().getParentPath().getLeaf();
    }

    private static boolean isNumber(Tree type) {
        return type instanceof PrimitiveTypeTree primitive && NUMBERS.contains(primitive.getPrimitiveTypeKind());
    }

    private static boolean isValue(Tree type) {
        return isNumber(type)
            || type instanceof PrimitiveTypeTree primitive && primitive.getPrimitiveTypeKind() == TypeKind.BOOLEAN;
    }

    private static boolean isArray(Tree type) {
        return type instanceof ArrayTypeTree;
    }

    private static boolean isAllowed(Tree type) {
        return isValue(type) || type instanceof ArrayTypeTree array && isValue(array.getType());
    }

    /** The name of a variable or a method, with or without this before it. */
    private static String nameOf(Tree expression) {
        if (expression instanceof MemberSelectTree select && select.getExpression().toString().equals("this")) {
            return select.getIdentifier().toString();
        }
        return expression instanceof IdentifierTree identifier ? identifier.getName().toString() : "";
    }

    private static ExpressionTree bare(ExpressionTree expression) {
        ExpressionTree inner = expression;
        while (inner instanceof ParenthesizedTree parenthesized) {
            inner = parenthesized.getExpression();
        }
        return inner;
    }

    private boolean isConstant(ExpressionTree expression) {
        ExpressionTree inner = bare(expression);
        if (inner instanceof BinaryTree binary) {
            return isConstant(binary.getLeftOperand()) && isConstant(binary.getRightOperand());
        }
        if (inner instanceof UnaryTree unary) {
            return isConstant(unary.getExpression());
        }
        return inner instanceof LiteralTree || constants.contains(nameOf(inner));
    }

    // Rules 1 to 3: one class, its types, no library.

    @Override
    public Void visitCompilationUnit(CompilationUnitTree node, Void none) {
        breaksIf(node.getPackage() != null, 1, node, "a package line");
        breaksIf(node.getTypeDecls().size() != 1, 1, node, "not one class");
        return super.visitCompilationUnit(node, none);
    }

    @Override
    public Void visitImport(ImportTree node, Void none) {
        breaks(3, node, "an import");
        return null;
    }

    @Override
    public Void visitAnnotation(AnnotationTree node, Void none) {
        breaks(3, node, "an annotation");
        return null;
    }

    @Override
    public Void visitClass(ClassTree node, Void none) {
        if (!(parent() instanceof CompilationUnitTree)) {
            breaks(1, node, "a nested class");
            return null;
        }
        Set<Modifier> modifiers = node.getModifiers().getFlags();
        breaksIf(!modifiers.equals(Set.of(Modifier.PUBLIC, Modifier.FINAL)), 1, node, "not public and final");
        breaksIf(node.getKind() != Tree.Kind.CLASS, 1, node, "not a class");
        breaksIf(node.getExtendsClause() != null || !node.getImplementsClause().isEmpty(), 3, node, "another type's heir");
        collectNames(node);
        checkFieldCount(node);
        checkMethodNames(node);
        return super.visitClass(node, none);
    }

    private void collectNames(ClassTree node) {
        for (Tree member : node.getMembers()) {
            if (member instanceof VariableTree field && isStatic(field)) {
                constants.add(field.getName().toString());
            }
            if (member instanceof VariableTree field && isArray(field.getType())) {
                arrays.add(field.getName().toString());
            }
            if (member instanceof MethodTree method) {
                calls.put(method.getName().toString(), new TreeSet<>());
            }
        }
    }

    private static boolean isStatic(VariableTree field) {
        return field.getModifiers().getFlags().contains(Modifier.STATIC);
    }

    private void checkFieldCount(ClassTree node) {
        long fields = node.getMembers().stream().filter(m -> m instanceof VariableTree field && !isStatic(field)).count();
        breaksIf(fields > MOST_FIELDS, 10, node, fields + " fields");
    }

    private void checkMethodNames(ClassTree node) {
        Set<String> open = new HashSet<>();
        Set<String> hidden = new HashSet<>();
        for (Tree member : node.getMembers()) {
            if (member instanceof MethodTree method) {
                boolean isHidden = method.getModifiers().getFlags().contains(Modifier.PRIVATE);
                (isHidden ? hidden : open).add(method.getName().toString());
            }
        }
        hidden.retainAll(open);
        breaksIf(!hidden.isEmpty(), 1, node, "private methods with names of public ones: " + hidden);
    }

    @Override
    public Void visitVariable(VariableTree node, Void none) {
        breaksIf(!isAllowed(node.getType()), 2, node, "type of " + node.getName());
        if (isArray(node.getType())) {
            arrays.add(node.getName().toString());
        }
        if (parent() instanceof ClassTree) {
            checkField(node);
        }
        return super.visitVariable(node, none);
    }

    private void checkField(VariableTree node) {
        Set<Modifier> modifiers = node.getModifiers().getFlags();
        breaksIf(!modifiers.contains(Modifier.PRIVATE), 1, node, "field " + node.getName() + " is not private");
        if (isStatic(node)) {
            String type = node.getType().toString();
            breaksIf(!type.equals("int") && !type.equals("long"), 5, node, "static " + type);
            breaksIf(!modifiers.contains(Modifier.FINAL), 5, node, "static field " + node.getName() + " is not final");
            breaksIf(node.getInitializer() == null || !isConstant(node.getInitializer()), 5, node,
                "static field " + node.getName() + " is no constant");
        }
    }

    @Override
    public Void visitLiteral(LiteralTree node, Void none) {
        switch (node.getKind()) {
            case INT_LITERAL, LONG_LITERAL, CHAR_LITERAL, BOOLEAN_LITERAL -> { }
            case NULL_LITERAL -> breaks(4, node, "null");
            default -> breaks(2, node, "literal " + node);
        }
        return null;
    }

    @Override
    public Void visitMemberSelect(MemberSelectTree node, Void none) {
        boolean isLength = node.getIdentifier().contentEquals("length") && arrays.contains(nameOf(node.getExpression()));
        breaksIf(!isLength && nameOf(node).isEmpty(), 3, node, "member " + node);
        return super.visitMemberSelect(node, none);
    }

    // Rule 4: arrays.

    @Override
    public Void visitNewClass(NewClassTree node, Void none) {
        breaks(4, node, "an object made");
        return super.visitNewClass(node, none);
    }

    @Override
    public Void visitNewArray(NewArrayTree node, Void none) {
        boolean inField = parent() instanceof VariableTree
            && getCurrentPath().getParentPath().getParentPath().getLeaf() instanceof ClassTree;
        breaksIf(!inField, 4, node, "an array made outside a field's initialiser");
        List<? extends ExpressionTree> lengths = node.getDimensions();
        boolean fixed = node.getInitializers() == null && lengths.size() == 1 && isConstant(lengths.get(0));
        breaksIf(!fixed, 4, node, "an array without one constant length");
        breaksIf(fixed && lengths.get(0).toString().equals("0"), 4, node, "an array of length 0");
        return super.visitNewArray(node, none);
    }

    @Override
    public Void visitAssignment(AssignmentTree node, Void none) {
        breaksIf(arrays.contains(nameOf(node.getVariable())), 4, node, "array variable assigned: " + node);
        return super.visitAssignment(node, none);
    }

    // Rules 5 and 6: no static block; forbidden words.

    @Override
    public Void visitBlock(BlockTree node, Void none) {
        breaksIf(parent() instanceof ClassTree && node.isStatic(), 5, node, "a static initialiser");
        return super.visitBlock(node, none);
    }

    @Override
    public Void visitThrow(ThrowTree node, Void none) {
        breaks(6, node, "throw");
        return super.visitThrow(node, none);
    }

    @Override
    public Void visitTry(TryTree node, Void none) {
        breaks(6, node, "try");
        return super.visitTry(node, none);
    }

    @Override
    public Void visitSynchronized(SynchronizedTree node, Void none) {
        breaks(6, node, "synchronized");
        return super.visitSynchronized(node, none);
    }

    @Override
    public Void visitAssert(AssertTree node, Void none) {
        breaks(6, node, "assert");
        return super.visitAssert(node, none);
    }

    @Override
    public Void visitInstanceOf(InstanceOfTree node, Void none) {
        breaks(6, node, "instanceof");
        return super.visitInstanceOf(node, none);
    }

    @Override
    public Void visitLambdaExpression(LambdaExpressionTree node, Void none) {
        breaks(6, node, "a lambda");
        return null;
    }

    @Override
    public Void visitMemberReference(MemberReferenceTree node, Void none) {
        breaks(6, node, "a method reference");
        return null;
    }

    @Override
    public Void visitTypeCast(TypeCastTree node, Void none) {
        breaksIf(!isNumber(node.getType()), 6, node, "a cast to " + node.getType());
        return super.visitTypeCast(node, none);
    }

    // Rules 4 and 7, in what operators do.

    @Override
    public Void visitBinary(BinaryTree node, Void none) {
        boolean compares = node.getKind() == Tree.Kind.EQUAL_TO || node.getKind() == Tree.Kind.NOT_EQUAL_TO;
        boolean ofArrays = arrays.contains(nameOf(node.getLeftOperand())) || arrays.contains(nameOf(node.getRightOperand()));
        breaksIf(compares && ofArrays, 4, node, "an array compared");
        boolean divides = node.getKind() == Tree.Kind.DIVIDE || node.getKind() == Tree.Kind.REMAINDER;
        breaksIf(divides && isUnsafeDivisor(node.getRightOperand()), 7, node, "divisor " + node.getRightOperand());
        return super.visitBinary(node, none);
    }

    @Override
    public Void visitCompoundAssignment(CompoundAssignmentTree node, Void none) {
        boolean divides = node.getKind() == Tree.Kind.DIVIDE_ASSIGNMENT || node.getKind() == Tree.Kind.REMAINDER_ASSIGNMENT;
        breaksIf(divides && isUnsafeDivisor(node.getExpression()), 7, node, "divisor " + node.getExpression());
        return super.visitCompoundAssignment(node, none);
    }

    private boolean isUnsafeDivisor(ExpressionTree divisor) {
        return !isConstant(divisor) || bare(divisor).toString().equals("0");
    }

    // Rule 8: loops.

    @Override
    public Void visitWhileLoop(WhileLoopTree node, Void none) {
        breaks(8, node, "a while loop");
        return super.visitWhileLoop(node, none);
    }

    @Override
    public Void visitDoWhileLoop(DoWhileLoopTree node, Void none) {
        breaks(8, node, "a do loop");
        return super.visitDoWhileLoop(node, none);
    }

    @Override
    public Void visitEnhancedForLoop(EnhancedForLoopTree node, Void none) {
        breaks(8, node, "a loop without a counter");
        return super.visitEnhancedForLoop(node, none);
    }

    @Override
    public Void visitForLoop(ForLoopTree node, Void none) {
        breaksIf(!isCounted(node), 8, node, "a loop whose counter does not bound it");
        return super.visitForLoop(node, none);
    }

    private static boolean isCounted(ForLoopTree loop) {
        if (loop.getInitializer().size() != 1 || loop.getUpdate().size() != 1 || loop.getCondition() == null
            || !(loop.getInitializer().get(0) instanceof VariableTree counter)
            || !(loop.getUpdate().get(0).getExpression() instanceof UnaryTree step)) {
            return false;
        }
        String name = counter.getName().toString();
        boolean up = step.getKind() == Tree.Kind.POSTFIX_INCREMENT || step.getKind() == Tree.Kind.PREFIX_INCREMENT;
        boolean down = step.getKind() == Tree.Kind.POSTFIX_DECREMENT || step.getKind() == Tree.Kind.PREFIX_DECREMENT;
        return (up || down) && nameOf(step.getExpression()).equals(name)
            && isBounded(loop.getCondition(), name, up ? Tree.Kind.LESS_THAN : Tree.Kind.GREATER_THAN_EQUAL)
            && !changes(loop.getStatement(), name);
    }

    /** The condition is a bound of the counter, or such a bound and more. */
    private static boolean isBounded(ExpressionTree condition, String counter, Tree.Kind bound) {
        if (!(bare(condition) instanceof BinaryTree binary)) {
            return false;
        }
        if (binary.getKind() == Tree.Kind.CONDITIONAL_AND) {
            return isBounded(binary.getLeftOperand(), counter, bound) || isBounded(binary.getRightOperand(), counter, bound);
        }
        return binary.getKind() == bound && nameOf(binary.getLeftOperand()).equals(counter);
    }

    private static boolean changes(Tree body, String name) {
        boolean[] found = {false};
        new TreeScanner<Void, Void>() {
            @Override
            public Void visitAssignment(AssignmentTree node, Void none) {
                found[0] |= nameOf(node.getVariable()).equals(name);
                return super.visitAssignment(node, none);
            }

            @Override
            public Void visitCompoundAssignment(CompoundAssignmentTree node, Void none) {
                found[0] |= nameOf(node.getVariable()).equals(name);
                return super.visitCompoundAssignment(node, none);
            }

            @Override
            public Void visitUnary(UnaryTree node, Void none) {
                boolean plain = node.getKind() == Tree.Kind.UNARY_MINUS || node.getKind() == Tree.Kind.UNARY_PLUS
                    || node.getKind() == Tree.Kind.BITWISE_COMPLEMENT || node.getKind() == Tree.Kind.LOGICAL_COMPLEMENT;
                found[0] |= !plain && nameOf(node.getExpression()).equals(name);
                return super.visitUnary(node, none);
            }
        }.scan(body, null);
        return found[0];
    }

    // Rules 4, 8 and 10, in methods and their calls.

    @Override
    public Void visitMethod(MethodTree node, Void none) {
        Tree answer = node.getReturnType();
        boolean isVoid = answer == null || answer.toString().equals("void");
        breaksIf(!isVoid && isArray(answer), 4, node, node.getName() + " answers an array");
        breaksIf(!isVoid && !isArray(answer) && !isValue(answer), 2, node, node.getName() + " answers " + answer);
        breaksIf(!node.getThrows().isEmpty(), 6, node, node.getName() + " throws");
        Set<Modifier> modifiers = node.getModifiers().getFlags();
        breaksIf(modifiers.contains(Modifier.SYNCHRONIZED), 6, node, node.getName() + " is synchronized");
        breaksIf(!modifiers.contains(Modifier.PUBLIC) && !modifiers.contains(Modifier.PRIVATE), 1, node,
            node.getName() + " is neither public nor private");
        breaksIf(node.getParameters().size() > MOST_PARAMETERS, 10, node, node.getName() + " has too many parameters");
        long lines = lineOf(trees.getSourcePositions().getEndPosition(unit, node))
            - lineOf(trees.getSourcePositions().getStartPosition(unit, node)) + 1;
        breaksIf(lines > MOST_LINES, 10, node, node.getName() + " has " + lines + " lines");
        return super.visitMethod(node, none);
    }

    @Override
    public Void visitMethodInvocation(MethodInvocationTree node, Void none) {
        String called = nameOf(node.getMethodSelect());
        breaksIf(!calls.containsKey(called), 3, node, "call of " + node.getMethodSelect());
        String caller = callerOf();
        if (!caller.isEmpty() && calls.containsKey(called)) {
            calls.get(caller).add(called);
        }
        for (TreePath at = getCurrentPath().getParentPath(); at != null; at = at.getParentPath()) {
            breaksIf(at.getLeaf() instanceof MethodInvocationTree, 10, node, "a call inside another call's arguments");
        }
        return super.visitMethodInvocation(node, none);
    }

    private String callerOf() {
        for (TreePath at = getCurrentPath(); at != null; at = at.getParentPath()) {
            if (at.getLeaf() instanceof MethodTree method) {
                return method.getName().toString();
            }
        }
        return "";
    }

    private void checkCalls() {
        for (String method : new TreeSet<>(calls.keySet())) {
            int deep = depthOf(method, List.of());
            breaksIf(deep > calls.size(), 8, unit, "recursion from " + method);
            breaksIf(deep <= calls.size() && deep > MOST_DEEP, 10, unit, "calls from " + method + " go " + deep + " deep");
        }
    }

    /** How many methods stand in the longest chain of calls from this one; more than there are if it is endless. */
    private int depthOf(String method, List<String> above) {
        if (above.contains(method)) {
            return calls.size() + 1;
        }
        List<String> chain = new ArrayList<>(above);
        chain.add(method);
        int deepest = 0;
        for (String called : calls.get(method)) {
            deepest = Math.max(deepest, depthOf(called, chain));
        }
        return deepest + 1;
    }
}
