import com.sun.source.tree.ArrayTypeTree;
import com.sun.source.tree.AssignmentTree;
import com.sun.source.tree.BinaryTree;
import com.sun.source.tree.ClassTree;
import com.sun.source.tree.CompilationUnitTree;
import com.sun.source.tree.DoWhileLoopTree;
import com.sun.source.tree.ExpressionTree;
import com.sun.source.tree.ForLoopTree;
import com.sun.source.tree.IdentifierTree;
import com.sun.source.tree.LiteralTree;
import com.sun.source.tree.MemberSelectTree;
import com.sun.source.tree.MethodInvocationTree;
import com.sun.source.tree.MethodTree;
import com.sun.source.tree.NewArrayTree;
import com.sun.source.tree.ParenthesizedTree;
import com.sun.source.tree.PrimitiveTypeTree;
import com.sun.source.tree.ReturnTree;
import com.sun.source.tree.Tree;
import com.sun.source.tree.TypeCastTree;
import com.sun.source.tree.VariableTree;
import com.sun.source.tree.WhileLoopTree;
import com.sun.source.util.JavacTask;
import com.sun.source.util.SourcePositions;
import com.sun.source.util.TreeScanner;
import com.sun.source.util.Trees;
import java.io.IOException;
import java.lang.reflect.Constructor;
import java.lang.reflect.Field;
import java.lang.reflect.Method;
import java.lang.reflect.Modifier;
import java.nio.file.Path;
import java.util.ArrayList;
import java.util.Arrays;
import java.util.HashMap;
import java.util.HashSet;
import java.util.List;
import java.util.Map;
import java.util.Set;
import java.util.TreeSet;
import javax.lang.model.type.TypeKind;
import javax.tools.JavaCompiler;
import javax.tools.StandardJavaFileManager;
import javax.tools.ToolProvider;

/**
 * The public face of the document, and the rules of LANGUAGE.md, held against the source as the
 * compiler reads it. Rule 7, that no call throws, is left to RefusedTest; of the loops of rule 8,
 * only those without a counter or a condition are found.
 */
public final class LanguageTest {
    private static final Path SOURCE = Path.of("src/main/java/CodeBreaker.java");
    private static final Set<String> FACE = Set.of(
            "int BAD_ARG", "int FULL", "int NONE", "int MANY", "new [int, int]",
            "int codes[]", "int answer[int, int]", "int tell[int, int, int]", "int forget[]",
            "int told[]", "int possible[]", "int code[int]", "boolean canBe[int]",
            "int parts[int]", "int worst[int]", "int weight[int]", "int safest[]",
            "int sharpest[]", "int need[]", "int needKept[]", "int first[]", "int useful[]");
    private static final Set<TypeKind> NUMBERS = Set.of(TypeKind.INT, TypeKind.LONG,
            TypeKind.SHORT, TypeKind.BYTE, TypeKind.CHAR, TypeKind.BOOLEAN);

    /** What no method may hold, with the number of the rule that says so. */
    private static final Map<Tree.Kind, Integer> FORBIDDEN = Map.of(
            Tree.Kind.CLASS, 1, Tree.Kind.NEW_ARRAY, 4, Tree.Kind.NEW_CLASS, 4, Tree.Kind.THROW, 6,
            Tree.Kind.TRY, 6, Tree.Kind.SYNCHRONIZED, 6, Tree.Kind.ASSERT, 6,
            Tree.Kind.INSTANCE_OF, 6, Tree.Kind.LAMBDA_EXPRESSION, 6, Tree.Kind.MEMBER_REFERENCE, 6);

    private static int wrong = 0;

    private final CompilationUnitTree unit;
    private final SourcePositions positions;
    private final Map<String, MethodTree> methods = new HashMap<>();
    private final Map<String, Set<String>> calls = new HashMap<>();
    private final Set<String> constants = new HashSet<>();
    private final Set<String> arrays = new HashSet<>();
    private final Set<String> variables = new HashSet<>();

    private LanguageTest(CompilationUnitTree unit, SourcePositions positions) {
        this.unit = unit;
        this.positions = positions;
    }

    public static void main(String[] args) throws IOException {
        face();
        JavaCompiler compiler = ToolProvider.getSystemJavaCompiler();
        try (StandardJavaFileManager files = compiler.getStandardFileManager(null, null, null)) {
            JavacTask task = (JavacTask) compiler.getTask(
                    null, files, null, null, null, files.getJavaFileObjects(SOURCE));
            for (CompilationUnitTree unit : task.parse()) {
                new LanguageTest(unit, Trees.instance(task).getSourcePositions()).rules();
            }
        }
        System.out.println(wrong == 0 ? "face and language are kept" : wrong + " faults");
        if (wrong != 0) {
            System.exit(1);
        }
    }

    private static void check(boolean holds, String fault) {
        if (!holds) {
            wrong++;
            System.out.println(fault);
        }
    }

    private static void face() {
        Class<?> c = CodeBreaker.class;
        check(c.getModifiers() == (Modifier.PUBLIC | Modifier.FINAL),
                "the class is not just public and final");
        check(c.getSuperclass() == Object.class && c.getInterfaces().length == 0,
                "the class extends or implements something");
        Set<String> seen = new TreeSet<>();
        for (Field f : c.getDeclaredFields()) {
            if (!Modifier.isPrivate(f.getModifiers())) {
                seen.add(f.getType() + " " + f.getName());
                check(f.getModifiers() == (Modifier.PUBLIC | Modifier.STATIC | Modifier.FINAL),
                        f + " is no public constant");
            }
        }
        for (Method m : c.getDeclaredMethods()) {
            if (!Modifier.isPrivate(m.getModifiers())) {
                seen.add(m.getReturnType() + " " + m.getName() + Arrays.toString(m.getParameterTypes()));
                check(m.getModifiers() == Modifier.PUBLIC && m.getExceptionTypes().length == 0,
                        m + " is not just public");
            }
        }
        for (Constructor<?> k : c.getDeclaredConstructors()) {
            seen.add("new " + Arrays.toString(k.getParameterTypes()));
            check(k.getModifiers() == Modifier.PUBLIC && k.getExceptionTypes().length == 0,
                    k + " is not just public");
        }
        check(seen.equals(FACE), "the face is " + seen + ", due is " + new TreeSet<>(FACE));
    }

    // The rules

    private void rules() {
        check(unit.getPackage() == null, "rule 1: a package line");
        check(unit.getImports().isEmpty(), "rule 3: an import");
        check(unit.getTypeDecls().size() == 1, "rule 1: more than one class");
        ClassTree type = (ClassTree) unit.getTypeDecls().get(0);
        for (Tree member : type.getMembers()) {
            member(member);
        }
        names(type);
        for (Tree member : type.getMembers()) {
            if (member instanceof MethodTree method) {
                body(method);
            } else if (member instanceof VariableTree field) {
                field(field);
            }
        }
        int deepest = 0;
        for (String name : methods.keySet()) {
            deepest = Math.max(deepest, depth(name, List.of()));
        }
        check(deepest <= 6, "rule 10: calls go " + deepest + " deep");
    }

    private void rule(int number, Tree at, boolean holds, String fault) {
        long line = unit.getLineMap().getLineNumber(positions.getStartPosition(unit, at));
        check(holds, "rule " + number + ": " + fault + ", line " + line + ": "
                + at.toString().strip().lines().findFirst().orElse(""));
    }

    private void member(Tree member) {
        rule(1, member, member instanceof MethodTree || member instanceof VariableTree,
                "a nested class or an initialiser block");
        if (member instanceof MethodTree method) {
            String name = method.getName().toString();
            rule(1, member, methods.put(name, method) == null, "two methods of one name");
            calls.put(name, new TreeSet<>());
        }
    }

    /** The names of constants, arrays and all variables, so that a name tells what it stands for. */
    private void names(ClassTree type) {
        int fields = 0;
        for (Tree member : type.getMembers()) {
            if (member instanceof VariableTree field) {
                boolean constant = isStatic(field);
                fields += constant ? 0 : 1;
                if (constant) {
                    constants.add(field.getName().toString());
                }
            }
        }
        check(fields <= 40, "rule 10: there are " + fields + " fields");
        new TreeScanner<Void, Void>() {
            @Override
            public Void visitVariable(VariableTree v, Void nothing) {
                variables.add(v.getName().toString());
                if (v.getType() instanceof ArrayTypeTree) {
                    arrays.add(v.getName().toString());
                }
                rule(2, v, isNumberOrArray(v.getType()), "a type");
                return super.visitVariable(v, nothing);
            }
        }.scan(type, null);
    }

    private static boolean isStatic(VariableTree field) {
        return field.getModifiers().getFlags().contains(javax.lang.model.element.Modifier.STATIC);
    }

    private static boolean isNumber(Tree type) {
        return type instanceof PrimitiveTypeTree plain && NUMBERS.contains(plain.getPrimitiveTypeKind());
    }

    private static boolean isNumberOrArray(Tree type) {
        return isNumber(type) || type instanceof ArrayTypeTree array && isNumber(array.getType());
    }

    private void field(VariableTree field) {
        ExpressionTree value = field.getInitializer();
        if (isStatic(field)) {
            boolean fixed = field.getModifiers().getFlags()
                    .contains(javax.lang.model.element.Modifier.FINAL);
            boolean whole = field.getType() instanceof PrimitiveTypeTree plain
                    && Set.of(TypeKind.INT, TypeKind.LONG).contains(plain.getPrimitiveTypeKind());
            rule(5, field, fixed && whole && isFixedNumber(value), "a static field that is no constant");
            return;
        }
        if (value instanceof NewArrayTree made) {
            List<? extends ExpressionTree> sizes = made.getDimensions();
            rule(4, field, made.getInitializers() == null && sizes.size() == 1
                    && isFixedNumber(sizes.get(0)) && !sizes.get(0).toString().equals("0"),
                    "an array's length");
        } else {
            rule(4, field, !(field.getType() instanceof ArrayTypeTree), "an array that is not made");
            scan(value, "");
        }
    }

    /** A number that is written out, with a sign or without, or the name of a constant. */
    private boolean isFixedNumber(ExpressionTree value) {
        if (value instanceof IdentifierTree name) {
            return constants.contains(name.getName().toString());
        }
        return value != null && value.toString().matches("-?\\d+L?");
    }

    private void body(MethodTree method) {
        Tree answered = method.getReturnType();
        boolean ofNothing = answered == null || answered.toString().equals("void");
        rule(2, method, ofNothing || isNumber(answered), "what a method answers");
        rule(6, method, method.getThrows().isEmpty(), "throws");
        rule(10, method, method.getParameters().size() <= 7, "too many parameters");
        long from = unit.getLineMap().getLineNumber(positions.getStartPosition(unit, method));
        long to = unit.getLineMap().getLineNumber(positions.getEndPosition(unit, method));
        rule(10, method, to - from < 60, "a long method");
        scan(method.getBody(), method.getName().toString());
    }

    private void scan(Tree tree, String method) {
        new Body(method).scan(tree, null);
    }

    /** The number of methods, this one counted, in the longest chain of calls; none comes twice. */
    private int depth(String name, List<String> above) {
        if (above.contains(name)) {
            check(false, "rule 8: " + name + " calls itself, through " + above);
            return 0;
        }
        List<String> chain = new ArrayList<>(above);
        chain.add(name);
        int deepest = 0;
        for (String called : calls.get(name)) {
            deepest = Math.max(deepest, depth(called, chain));
        }
        return deepest + 1;
    }

    /** What the statements and expressions of one method must keep to. */
    private final class Body extends TreeScanner<Void, Void> {
        private final String method;

        Body(String method) {
            this.method = method;
        }

        private boolean inConstructor() {
            return method.equals("<init>");
        }

        @Override
        public Void scan(Tree tree, Void nothing) {
            if (tree != null && FORBIDDEN.containsKey(tree.getKind())) {
                rule(FORBIDDEN.get(tree.getKind()), tree, false, "what the language leaves out");
            }
            return super.scan(tree, nothing);
        }

        @Override
        public Void visitMethodInvocation(MethodInvocationTree call, Void nothing) {
            String name = call.getMethodSelect().toString();
            boolean own = methods.containsKey(name);
            rule(3, call, own || inConstructor() && name.equals("super"), "a call outside the class");
            if (own) {
                calls.get(method).add(name);
            }
            for (ExpressionTree handed : call.getArguments()) {
                rule(10, call, !holdsCall(handed), "a call inside the arguments of another");
                rule(4, call, !inConstructor() || !isArray(handed), "the constructor hands over an array");
            }
            return scan(call.getArguments(), nothing);
        }

        private boolean holdsCall(Tree tree) {
            boolean[] found = {false};
            new TreeScanner<Void, Void>() {
                @Override
                public Void visitMethodInvocation(MethodInvocationTree call, Void nothing) {
                    found[0] = true;
                    return null;
                }
            }.scan(tree, null);
            return found[0];
        }

        @Override
        public Void visitIdentifier(IdentifierTree name, Void nothing) {
            rule(3, name, variables.contains(name.getName().toString()), "a name from outside the class");
            return null;
        }

        @Override
        public Void visitMemberSelect(MemberSelectTree select, Void nothing) {
            String whole = select.toString();
            boolean ownField = whole.startsWith("this.") && variables.contains(whole.substring(5));
            boolean length = isArray(select.getExpression())
                    && select.getIdentifier().contentEquals("length");
            rule(3, select, ownField || length, "a member of another class");
            return null;
        }

        private boolean isArray(ExpressionTree value) {
            ExpressionTree inner = value instanceof ParenthesizedTree p ? p.getExpression() : value;
            String name = inner.toString();
            return arrays.contains(name.startsWith("this.") ? name.substring(5) : name);
        }

        @Override
        public Void visitAssignment(AssignmentTree assigned, Void nothing) {
            rule(4, assigned, !isArray(assigned.getVariable()), "an array is put in another's place");
            return super.visitAssignment(assigned, nothing);
        }

        @Override
        public Void visitBinary(BinaryTree pair, Void nothing) {
            rule(4, pair, !isArray(pair.getLeftOperand()) && !isArray(pair.getRightOperand()),
                    "arrays are compared");
            return super.visitBinary(pair, nothing);
        }

        @Override
        public Void visitReturn(ReturnTree answer, Void nothing) {
            rule(4, answer, answer.getExpression() == null || !isArray(answer.getExpression()),
                    "an array is answered");
            return super.visitReturn(answer, nothing);
        }

        @Override
        public Void visitLiteral(LiteralTree literal, Void nothing) {
            Object value = literal.getValue();
            rule(2, literal, value instanceof Integer || value instanceof Long
                    || value instanceof Boolean || value instanceof Character, "a value");
            return null;
        }

        @Override
        public Void visitTypeCast(TypeCastTree cast, Void nothing) {
            rule(6, cast, isNumber(cast.getType()), "a cast");
            return super.visitTypeCast(cast, nothing);
        }

        @Override
        public Void visitForLoop(ForLoopTree loop, Void nothing) {
            rule(8, loop, loop.getCondition() != null && !isTrue(loop.getCondition())
                    && !loop.getUpdate().isEmpty(), "a loop without a counter or an end");
            return super.visitForLoop(loop, nothing);
        }

        @Override
        public Void visitWhileLoop(WhileLoopTree loop, Void nothing) {
            rule(8, loop, !isTrue(loop.getCondition()), "a loop without an end");
            return super.visitWhileLoop(loop, nothing);
        }

        @Override
        public Void visitDoWhileLoop(DoWhileLoopTree loop, Void nothing) {
            rule(8, loop, !isTrue(loop.getCondition()), "a loop without an end");
            return super.visitDoWhileLoop(loop, nothing);
        }

        private boolean isTrue(ExpressionTree condition) {
            return condition.toString().matches("\\(*true\\)*");
        }
    }
}
