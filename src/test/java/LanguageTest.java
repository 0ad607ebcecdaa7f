import com.sun.source.tree.ArrayAccessTree;
import com.sun.source.tree.ArrayTypeTree;
import com.sun.source.tree.AssignmentTree;
import com.sun.source.tree.BinaryTree;
import com.sun.source.tree.ClassTree;
import com.sun.source.tree.CompilationUnitTree;
import com.sun.source.tree.CompoundAssignmentTree;
import com.sun.source.tree.ForLoopTree;
import com.sun.source.tree.IdentifierTree;
import com.sun.source.tree.LiteralTree;
import com.sun.source.tree.MemberSelectTree;
import com.sun.source.tree.MethodInvocationTree;
import com.sun.source.tree.MethodTree;
import com.sun.source.tree.NewArrayTree;
import com.sun.source.tree.PrimitiveTypeTree;
import com.sun.source.tree.Tree;
import com.sun.source.tree.Tree.Kind;
import com.sun.source.tree.TypeCastTree;
import com.sun.source.tree.UnaryTree;
import com.sun.source.tree.VariableTree;
import com.sun.source.util.JavacTask;
import com.sun.source.util.SourcePositions;
import com.sun.source.util.TreeScanner;
import com.sun.source.util.Trees;
import java.io.File;
import java.util.List;
import java.util.Map;
import java.util.Set;
import java.util.TreeMap;
import java.util.TreeSet;
import javax.lang.model.element.Modifier;
import javax.lang.model.type.TypeKind;
import javax.tools.JavaCompiler;
import javax.tools.StandardJavaFileManager;
import javax.tools.ToolProvider;

/**
 * The rules of LANGUAGE.md that can be read off the source: all but 7, and of 1 what FaceTest
 * does not look at. Some are held more strictly than they are written, because the class can
 * do with less: every loop is a for loop that counts up to a constant, and every array is made
 * in the initialiser of a final field and used through that field's name with an index.
 */
public final class LanguageTest {
    private static final String SOURCE = "src/main/java/BlockSheet.java";
    private static final Set<TypeKind> TYPES = Set.of(TypeKind.INT, TypeKind.LONG, TypeKind.SHORT,
        TypeKind.BYTE, TypeKind.CHAR, TypeKind.BOOLEAN, TypeKind.VOID);
    private static final Map<Kind, Integer> RULE_AGAINST = Map.ofEntries(
        Map.entry(Kind.CLASS, 1), Map.entry(Kind.INTERFACE, 1), Map.entry(Kind.ENUM, 1),
        Map.entry(Kind.RECORD, 1), Map.entry(Kind.ANNOTATION_TYPE, 1),
        Map.entry(Kind.FLOAT_LITERAL, 2), Map.entry(Kind.DOUBLE_LITERAL, 2),
        Map.entry(Kind.STRING_LITERAL, 2), Map.entry(Kind.NEW_CLASS, 2), Map.entry(Kind.ANNOTATION, 3),
        Map.entry(Kind.NULL_LITERAL, 4), Map.entry(Kind.THROW, 6), Map.entry(Kind.TRY, 6),
        Map.entry(Kind.SYNCHRONIZED, 6), Map.entry(Kind.ASSERT, 6), Map.entry(Kind.INSTANCE_OF, 6),
        Map.entry(Kind.LAMBDA_EXPRESSION, 6), Map.entry(Kind.MEMBER_REFERENCE, 6),
        Map.entry(Kind.WHILE_LOOP, 8), Map.entry(Kind.DO_WHILE_LOOP, 8), Map.entry(Kind.ENHANCED_FOR_LOOP, 8));

    private static int wrong = 0;

    private final CompilationUnitTree unit;
    private final SourcePositions positions;
    private final Map<String, String> constants = new TreeMap<>();
    private final Set<String> arrays = new TreeSet<>();
    private final Map<String, Set<String>> calls = new TreeMap<>();

    private LanguageTest(CompilationUnitTree unit, SourcePositions positions) {
        this.unit = unit;
        this.positions = positions;
    }

    private long line(long position) {
        return unit.getLineMap().getLineNumber(position);
    }

    private void hold(int rule, boolean holds, Tree where, String text) {
        if (!holds) {
            wrong++;
            long line = line(positions.getStartPosition(unit, where));
            System.out.println("rule " + rule + ", line " + line + ": " + text);
        }
    }

    private static boolean has(VariableTree field, Modifier modifier) {
        return field.getModifiers().getFlags().contains(modifier);
    }

    private boolean isConstant(Tree tree) {
        if (tree instanceof UnaryTree unary) {
            return unary.getKind() == Kind.UNARY_MINUS && isConstant(unary.getExpression());
        }
        return tree instanceof LiteralTree || tree instanceof IdentifierTree && constants.containsKey(tree.toString());
    }

    /** A constant, 1 or more. */
    private boolean isLength(Tree tree) {
        String text = tree.toString();
        return isConstant(tree) && constants.getOrDefault(text, text).matches("[1-9][0-9]*");
    }

    private void lookAtFile() {
        ClassTree top = (ClassTree) unit.getTypeDecls().get(0);
        hold(1, unit.getTypeDecls().size() == 1, top, "not one class alone");
        hold(1, unit.getPackageName() == null, top, "a package line");
        hold(1, top.getExtendsClause() == null && top.getImplementsClause().isEmpty(), top, "a type above the class");
        hold(3, unit.getImports().isEmpty(), top, "an import");
        int fields = 0;
        for (Tree member : top.getMembers()) {
            if (member instanceof VariableTree field) {
                lookAtField(field);
                fields += has(field, Modifier.STATIC) ? 0 : 1;
            } else if (member instanceof MethodTree method) {
                calls.put(method.getName().toString(), new TreeSet<>());
            } else {
                hold(5, false, member, "a member that is no field and no method");
            }
        }
        hold(10, fields <= 40, top, fields + " fields");
        for (Tree member : top.getMembers()) {
            if (member instanceof MethodTree method) {
                lookAtMethod(method);
            }
            new EveryTree().scan(member, null);
        }
        lookAtDepth(top);
    }

    private void lookAtField(VariableTree field) {
        String type = String.valueOf(field.getType());
        Tree first = field.getInitializer();
        if (has(field, Modifier.STATIC)) {
            hold(5, has(field, Modifier.FINAL) && isConstant(first), field, "no constant: " + field);
            hold(5, type.equals("int") || type.equals("long"), field, "a static " + type);
            constants.put(field.getName().toString(), String.valueOf(first));
        } else if (field.getType() instanceof ArrayTypeTree) {
            arrays.add(field.getName().toString());
            hold(4, has(field, Modifier.FINAL), field, "an array that could become another: " + field);
            hold(4, first instanceof NewArrayTree, field, "an array that is not made at once: " + field);
        } else {
            hold(4, first == null || isConstant(first), field, "a field that begins with no constant: " + field);
        }
    }

    private void lookAtMethod(MethodTree method) {
        String name = method.getName().toString();
        long lines = line(positions.getEndPosition(unit, method)) - line(positions.getStartPosition(unit, method)) + 1;
        hold(4, !(method.getReturnType() instanceof ArrayTypeTree), method, name + " answers an array");
        hold(6, method.getThrows().isEmpty(), method, name + " throws");
        hold(10, method.getParameters().size() <= 7, method, name + " takes more than seven parameters");
        hold(10, lines <= 60, method, name + " has " + lines + " lines");
        new MethodBody(name).scan(method.getBody(), null);
    }

    /** How many methods stand on each other at most; a method on a ring of calls never gets a number. */
    private void lookAtDepth(Tree top) {
        Map<String, Integer> depths = new TreeMap<>();
        for (int round = 0; round < calls.size(); round++) {
            calls.forEach((name, called) -> {
                if (depths.keySet().containsAll(called)) {
                    depths.put(name, 1 + called.stream().mapToInt(depths::get).max().orElse(0));
                }
            });
        }
        for (String name : calls.keySet()) {
            hold(8, depths.containsKey(name), top, name + " may come to call itself");
            hold(10, depths.getOrDefault(name, 0) <= 6, top, "calls go too deep below " + name);
        }
    }

    /** What holds inside methods alone: own methods are called, no array is made or used whole. */
    private final class MethodBody extends TreeScanner<Void, Void> {
        private final String method;
        private int callsAround = 0;

        MethodBody(String method) {
            this.method = method;
        }

        @Override
        public Void visitNewArray(NewArrayTree tree, Void unused) {
            hold(4, false, tree, method + " makes an array");
            return super.visitNewArray(tree, unused);
        }

        @Override
        public Void visitVariable(VariableTree tree, Void unused) {
            hold(4, !(tree.getType() instanceof ArrayTypeTree), tree, method + " names an array");
            return super.visitVariable(tree, unused);
        }

        /** Only the places of an array are used, so it is never compared, handed on or assigned. */
        @Override
        public Void visitArrayAccess(ArrayAccessTree tree, Void unused) {
            if (!arrays.contains(tree.getExpression().toString())) {
                scan(tree.getExpression(), unused);
            }
            return scan(tree.getIndex(), unused);
        }

        @Override
        public Void visitIdentifier(IdentifierTree tree, Void unused) {
            hold(4, !arrays.contains(tree.toString()), tree, "an array without an index: " + tree);
            return super.visitIdentifier(tree, unused);
        }

        @Override
        public Void visitMethodInvocation(MethodInvocationTree tree, Void unused) {
            String called = tree.getMethodSelect().toString();
            hold(10, callsAround == 0, tree, "a call inside the arguments of another: " + tree);
            hold(3, calls.containsKey(called), tree, "no method of the class: " + called);
            calls.get(method).add(called);
            callsAround++;
            scan(tree.getArguments(), unused);
            callsAround--;
            return null;
        }
    }

    /** What holds everywhere in the class: the types, the names and the kinds of statements. */
    private final class EveryTree extends TreeScanner<Void, Void> {
        @Override
        public Void scan(Tree tree, Void unused) {
            if (tree != null && RULE_AGAINST.containsKey(tree.getKind())) {
                hold(RULE_AGAINST.get(tree.getKind()), false, tree, "not allowed: " + tree);
            }
            return super.scan(tree, unused);
        }

        @Override
        public Void visitVariable(VariableTree tree, Void unused) {
            Tree type = tree.getType() instanceof ArrayTypeTree array ? array.getType() : tree.getType();
            hold(2, type instanceof PrimitiveTypeTree, tree, "the type of " + tree);
            return super.visitVariable(tree, unused);
        }

        @Override
        public Void visitMethod(MethodTree tree, Void unused) {
            Tree type = tree.getReturnType();
            hold(2, type == null || type instanceof PrimitiveTypeTree, tree, "the type of " + tree.getName());
            return super.visitMethod(tree, unused);
        }

        @Override
        public Void visitPrimitiveType(PrimitiveTypeTree tree, Void unused) {
            hold(2, TYPES.contains(tree.getPrimitiveTypeKind()), tree, "the type " + tree);
            return super.visitPrimitiveType(tree, unused);
        }

        @Override
        public Void visitTypeCast(TypeCastTree tree, Void unused) {
            hold(6, tree.getType() instanceof PrimitiveTypeTree, tree, "the cast " + tree);
            return super.visitTypeCast(tree, unused);
        }

        @Override
        public Void visitMemberSelect(MemberSelectTree tree, Void unused) {
            boolean own = tree.getExpression().toString().equals("this");
            hold(3, own, tree, "the name " + tree);
            return super.visitMemberSelect(tree, unused);
        }

        @Override
        public Void visitNewArray(NewArrayTree tree, Void unused) {
            boolean plain = tree.getInitializers() == null && tree.getDimensions().size() == 1;
            hold(4, plain && isLength(tree.getDimensions().get(0)), tree, "no constant length: " + tree);
            return super.visitNewArray(tree, unused);
        }

        @Override
        public Void visitForLoop(ForLoopTree tree, Void unused) {
            hold(8, isCounted(tree), tree, "a loop whose end is not seen at once");
            return super.visitForLoop(tree, unused);
        }
    }

    private boolean isCounted(ForLoopTree loop) {
        if (loop.getInitializer().size() != 1 || loop.getUpdate().size() != 1
            || !(loop.getInitializer().get(0) instanceof VariableTree counter)
            || !(loop.getCondition() instanceof BinaryTree condition)) {
            return false;
        }
        String name = counter.getName().toString();
        CounterChanges changes = new CounterChanges(name);
        changes.scan(loop.getStatement(), null);
        return condition.getKind() == Kind.LESS_THAN
            && condition.getLeftOperand().toString().equals(name)
            && isConstant(condition.getRightOperand())
            && loop.getUpdate().get(0).getExpression() instanceof UnaryTree step
            && step.getKind() == Kind.POSTFIX_INCREMENT
            && step.getExpression().toString().equals(name)
            && !changes.found;
    }

    private static final class CounterChanges extends TreeScanner<Void, Void> {
        private final String counter;
        private boolean found = false;

        CounterChanges(String counter) {
            this.counter = counter;
        }

        @Override
        public Void visitAssignment(AssignmentTree tree, Void unused) {
            found |= tree.getVariable().toString().equals(counter);
            return super.visitAssignment(tree, unused);
        }

        @Override
        public Void visitCompoundAssignment(CompoundAssignmentTree tree, Void unused) {
            found |= tree.getVariable().toString().equals(counter);
            return super.visitCompoundAssignment(tree, unused);
        }

        @Override
        public Void visitUnary(UnaryTree tree, Void unused) {
            boolean steps = tree.getKind().name().endsWith("CREMENT");
            found |= steps && tree.getExpression().toString().equals(counter);
            return super.visitUnary(tree, unused);
        }
    }

    public static void main(String[] args) throws Exception {
        JavaCompiler compiler = ToolProvider.getSystemJavaCompiler();
        StandardJavaFileManager files = compiler.getStandardFileManager(null, null, null);
        String source = args.length == 0 ? SOURCE : args[0];
        JavacTask task = (JavacTask) compiler.getTask(null, files, null,
            List.of("--release", "17"), null, files.getJavaFileObjects(new File(source)));
        CompilationUnitTree unit = task.parse().iterator().next();
        new LanguageTest(unit, Trees.instance(task).getSourcePositions()).lookAtFile();
        System.out.println(wrong == 0 ? "the rules hold" : wrong + " faults against the rules");
        if (wrong != 0) {
            System.exit(1);
        }
    }
}
