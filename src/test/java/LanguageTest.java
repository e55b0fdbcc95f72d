import com.sun.source.tree.ArrayAccessTree;
import com.sun.source.tree.ArrayTypeTree;
import com.sun.source.tree.AssignmentTree;
import com.sun.source.tree.BinaryTree;
import com.sun.source.tree.ClassTree;
import com.sun.source.tree.CompilationUnitTree;
import com.sun.source.tree.CompoundAssignmentTree;
import com.sun.source.tree.ExpressionTree;
import com.sun.source.tree.ForLoopTree;
import com.sun.source.tree.IdentifierTree;
import com.sun.source.tree.MethodInvocationTree;
import com.sun.source.tree.MethodTree;
import com.sun.source.tree.NewArrayTree;
import com.sun.source.tree.PrimitiveTypeTree;
import com.sun.source.tree.Tree;
import com.sun.source.tree.Tree.Kind;
import com.sun.source.tree.TypeCastTree;
import com.sun.source.tree.UnaryTree;
import com.sun.source.tree.VariableTree;
import com.sun.source.util.JavacTask;
import com.sun.source.util.SourcePositions;
import com.sun.source.util.TreeScanner;
import com.sun.source.util.Trees;
import java.nio.file.Path;
import java.util.EnumSet;
import java.util.HashMap;
import java.util.HashSet;
import java.util.List;
import java.util.Map;
import java.util.Set;
import java.util.TreeMap;
import java.util.TreeSet;
import javax.lang.model.element.Modifier;
import javax.lang.model.type.TypeKind;
import javax.tools.JavaCompiler;
import javax.tools.StandardJavaFileManager;
import javax.tools.ToolProvider;

/**
 * Rules 2 to 6, 8, 10 and 11 of LANGUAGE.md, read off the class's syntax; rule 1 is FaceTest's. Where a rule leaves
 * more than the class needs, the narrower thing is asked: all loops are counting for loops, an array is made in a
 * field's initialiser and then only indexed, and nothing is divided.
 */
public final class LanguageTest {
    private static final Set<Kind> BANNED = EnumSet.of(
        Kind.INTERFACE, Kind.ENUM, Kind.RECORD, Kind.ANNOTATION_TYPE, Kind.ANNOTATION, Kind.IMPORT, Kind.PACKAGE,
        Kind.THROW, Kind.TRY, Kind.CATCH, Kind.SYNCHRONIZED, Kind.ASSERT, Kind.INSTANCE_OF, Kind.LAMBDA_EXPRESSION,
        Kind.MEMBER_REFERENCE, Kind.MEMBER_SELECT, Kind.NEW_CLASS, Kind.NULL_LITERAL, Kind.STRING_LITERAL,
        Kind.FLOAT_LITERAL, Kind.DOUBLE_LITERAL, Kind.PARAMETERIZED_TYPE, Kind.ENHANCED_FOR_LOOP, Kind.WHILE_LOOP,
        Kind.DO_WHILE_LOOP, Kind.DIVIDE, Kind.REMAINDER, Kind.DIVIDE_ASSIGNMENT, Kind.REMAINDER_ASSIGNMENT);
    private static final Set<TypeKind> NUMBERS = EnumSet.of(
        TypeKind.INT, TypeKind.LONG, TypeKind.SHORT, TypeKind.BYTE, TypeKind.CHAR, TypeKind.BOOLEAN);
    private static final Set<Kind> STEPS = EnumSet.of(
        Kind.POSTFIX_INCREMENT, Kind.POSTFIX_DECREMENT, Kind.PREFIX_INCREMENT, Kind.PREFIX_DECREMENT);
    private static final int DEEPEST = 6;
    private static final int LINES = 60;
    private static final Check check = new Check("LanguageTest");

    private final Map<String, MethodTree> methods = new TreeMap<>();
    private final Map<String, Set<String>> calls = new HashMap<>();
    private final Set<String> constants = new HashSet<>();
    private final Set<String> arrayFields = new HashSet<>();
    private final CompilationUnitTree file;
    private final SourcePositions positions;

    private LanguageTest(CompilationUnitTree file, SourcePositions positions) {
        this.file = file;
        this.positions = positions;
    }

    public static void main(String[] args) throws Exception {
        JavaCompiler compiler = ToolProvider.getSystemJavaCompiler();
        try (StandardJavaFileManager files = compiler.getStandardFileManager(null, null, null)) {
            JavacTask task = (JavacTask) compiler.getTask(null, files, null, List.of("--release", "17"), null,
                files.getJavaFileObjects(Path.of("src/main/java/ScanMatcher.java")));
            CompilationUnitTree file = task.parse().iterator().next();
            new LanguageTest(file, Trees.instance(task).getSourcePositions()).read();
        }
        check.end();
    }

    private void read() {
        check.due("classes in the file", file.getTypeDecls().size(), 1);
        ClassTree type = (ClassTree) file.getTypeDecls().get(0);
        for (Tree member : type.getMembers()) {
            boolean known = member instanceof MethodTree || member instanceof VariableTree;
            check.holds("1, 5: a member is a field, a method or the constructor: " + member, known);
            if (member instanceof MethodTree) {
                MethodTree method = (MethodTree) member;
                String name = method.getName().toString();
                check.holds("no two methods are called " + name, methods.put(name, method) == null);
            } else if (known) {
                field((VariableTree) member);
            }
        }
        new Rules().scan(file, null);
        methods.forEach(this::method);
        check.holds("the class was read", methods.size() > 15 && arrayFields.size() > 0);
    }

    private void field(VariableTree field) {
        boolean fixed = field.getModifiers().getFlags().contains(Modifier.FINAL);
        if (field.getModifiers().getFlags().contains(Modifier.STATIC)) {
            constants.add(field.getName().toString());
            check.holds("5: a plain number, int or long: " + field,
                fixed && List.of("int", "long").contains(field.getType().toString())
                && String.valueOf(field.getInitializer()).matches("-?\\d+L?"));
        } else if (field.getType() instanceof ArrayTypeTree) {
            arrayFields.add(field.getName().toString());
            check.holds("4: made once, in its initialiser: " + field,
                fixed && field.getInitializer() instanceof NewArrayTree);
        }
    }

    private void method(String name, MethodTree method) {
        check.holds("10: " + name + " takes at most seven parameters", method.getParameters().size() <= 7);
        long lines = file.getLineMap().getLineNumber(positions.getEndPosition(file, method))
            - file.getLineMap().getLineNumber(positions.getStartPosition(file, method)) + 1;
        check.holds("10: " + name + " is short: " + lines + " lines", lines <= LINES);
        int depth = depth(name, new HashSet<>());
        check.holds("8, 10: calls from " + name + " go " + depth + " deep", depth <= DEEPEST);
    }

    /** How many methods the longest chain of calls from this one has; more than are allowed if it comes back. */
    private int depth(String name, Set<String> above) {
        if (!above.add(name)) {
            return DEEPEST + 1;
        }
        int below = 0;
        for (String called : calls.getOrDefault(name, Set.of())) {
            below = Math.max(below, depth(called, above));
        }
        above.remove(name);
        return below + 1;
    }

    private final class Rules extends TreeScanner<Void, Void> {
        private String inMethod = "";
        private boolean inArguments;

        @Override
        public Void scan(Tree tree, Void none) {
            if (tree != null) {
                check.holds("no " + tree.getKind() + ": " + tree, !BANNED.contains(tree.getKind()));
            }
            return super.scan(tree, none);
        }

        @Override
        public Void visitMethod(MethodTree method, Void none) {
            inMethod = method.getName().toString();
            if (method.getReturnType() != null) {
                number(method.getReturnType());
            }
            super.visitMethod(method, none);
            inMethod = "";
            return null;
        }

        @Override
        public Void visitVariable(VariableTree variable, Void none) {
            boolean row = inMethod.isEmpty() && variable.getType() instanceof ArrayTypeTree;
            number(row ? ((ArrayTypeTree) variable.getType()).getType() : variable.getType());
            return super.visitVariable(variable, none);
        }

        @Override
        public Void visitTypeCast(TypeCastTree cast, Void none) {
            check.holds("6: a cast between number types: " + cast, cast.getType() instanceof PrimitiveTypeTree);
            return super.visitTypeCast(cast, none);
        }

        @Override
        public Void visitPrimitiveType(PrimitiveTypeTree type, Void none) {
            check.holds("2: not of a type " + type, NUMBERS.contains(type.getPrimitiveTypeKind()));
            return super.visitPrimitiveType(type, none);
        }

        /** What is none of the primitive types would be an array outside of the fields, or some other object. */
        private void number(Tree type) {
            check.holds("2: of a primitive type: " + type, type instanceof PrimitiveTypeTree);
        }

        @Override
        public Void visitNewArray(NewArrayTree made, Void none) {
            check.holds("4: an array is made in a field's initialiser: " + made, inMethod.isEmpty());
            boolean oneLength = made.getDimensions().size() == 1 && made.getInitializers() == null;
            check.holds("4: with one length: " + made, oneLength);
            if (oneLength) {
                ExpressionTree length = made.getDimensions().get(0);
                check.holds("4: with a length that is a literal or a constant: " + made,
                    length.getKind() == Kind.INT_LITERAL || constants.contains(length.toString()));
            }
            return super.visitNewArray(made, none);
        }

        @Override
        public Void visitArrayAccess(ArrayAccessTree access, Void none) {
            check.holds("4: a field is indexed: " + access, arrayFields.contains(access.getExpression().toString()));
            return scan(access.getIndex(), none);
        }

        @Override
        public Void visitIdentifier(IdentifierTree name, Void none) {
            check.holds("4: an array field is only indexed: " + name, !arrayFields.contains(name.toString()));
            return super.visitIdentifier(name, none);
        }

        @Override
        public Void visitMethodInvocation(MethodInvocationTree call, Void none) {
            String name = call.getMethodSelect().toString();
            // The compiler puts a call of super() into a constructor only after it has been parsed.
            check.holds("3: a method of the class itself is called: " + call, methods.containsKey(name));
            check.holds("10: no call stands inside the arguments of another one: " + call, !inArguments);
            calls.computeIfAbsent(inMethod, m -> new TreeSet<>()).add(name);
            boolean outer = inArguments;
            inArguments = true;
            super.visitMethodInvocation(call, none);
            inArguments = outer;
            return null;
        }

        @Override
        public Void visitForLoop(ForLoopTree loop, Void none) {
            boolean one = loop.getInitializer().size() == 1 && loop.getInitializer().get(0) instanceof VariableTree
                && loop.getUpdate().size() == 1 && loop.getCondition() instanceof BinaryTree;
            String head = loop.getInitializer() + " " + loop.getCondition() + " " + loop.getUpdate();
            check.holds("8: one counter against one bound: " + head, one);
            if (one) {
                counts(loop, head);
            }
            return super.visitForLoop(loop, none);
        }

        private void counts(ForLoopTree loop, String head) {
            String counter = ((VariableTree) loop.getInitializer().get(0)).getName().toString();
            BinaryTree condition = (BinaryTree) loop.getCondition();
            boolean below = condition.getKind() == Kind.LESS_THAN
                || condition.getKind() == Kind.LESS_THAN_EQUAL && constants.contains(condition.getRightOperand().toString());
            check.holds("8: the counter is held below a bound: " + head,
                below && condition.getLeftOperand().toString().equals(counter));
            check.holds("8: the counter grows by one: " + head,
                loop.getUpdate().get(0).getExpression().toString().equals(counter + "++"));
            Tree bound = condition.getRightOperand();
            check.holds("8: the bound is a name or a number: " + head,
                bound instanceof IdentifierTree || bound.getKind() == Kind.INT_LITERAL);
            Set<String> changed = changedIn(loop.getStatement());
            check.holds("8: the body changes neither counter nor bound: " + head,
                !changed.contains(counter) && !changed.contains(bound.toString()));
        }

        /** The names that stand to the left of an assignment in the statement, or beside ++ or --. */
        private Set<String> changedIn(Tree statement) {
            Set<String> changed = new HashSet<>();
            new TreeScanner<Void, Void>() {
                @Override
                public Void visitAssignment(AssignmentTree it, Void none) {
                    changed.add(it.getVariable().toString());
                    return super.visitAssignment(it, none);
                }

                @Override
                public Void visitCompoundAssignment(CompoundAssignmentTree it, Void none) {
                    changed.add(it.getVariable().toString());
                    return super.visitCompoundAssignment(it, none);
                }

                @Override
                public Void visitUnary(UnaryTree it, Void none) {
                    if (STEPS.contains(it.getKind())) {
                        changed.add(it.getExpression().toString());
                    }
                    return super.visitUnary(it, none);
                }
            }.scan(statement, null);
            return changed;
        }
    }
}
