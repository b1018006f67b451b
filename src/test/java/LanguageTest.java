import com.sun.source.tree.ArrayTypeTree;
import com.sun.source.tree.AssignmentTree;
import com.sun.source.tree.BinaryTree;
import com.sun.source.tree.BlockTree;
import com.sun.source.tree.ClassTree;
import com.sun.source.tree.CompilationUnitTree;
import com.sun.source.tree.CompoundAssignmentTree;
import com.sun.source.tree.ExpressionTree;
import com.sun.source.tree.ForLoopTree;
import com.sun.source.tree.IdentifierTree;
import com.sun.source.tree.MethodInvocationTree;
import com.sun.source.tree.MethodTree;
import com.sun.source.tree.NewArrayTree;
import com.sun.source.tree.PrimitiveTypeTree;
import com.sun.source.tree.Tree;
import com.sun.source.tree.Tree.Kind;
import com.sun.source.tree.UnaryTree;
import com.sun.source.tree.VariableTree;
import com.sun.source.util.JavacTask;
import com.sun.source.util.SourcePositions;
import com.sun.source.util.TreeScanner;
import com.sun.source.util.Trees;
import java.io.IOException;
import java.nio.file.Files;
import java.nio.file.Path;
import java.util.EnumSet;
import java.util.HashSet;
import java.util.List;
import java.util.Map;
import java.util.Set;
import java.util.TreeMap;
import java.util.TreeSet;
import java.util.stream.Stream;
import javax.lang.model.element.Modifier;
import javax.lang.model.type.TypeKind;
import javax.tools.JavaCompiler;
import javax.tools.StandardJavaFileManager;
import javax.tools.ToolProvider;

/** The rules of LANGUAGE.md, by their numbers, on the class as the compiler reads it; here and there a bit stricter. */
public final class LanguageTest {
    private static final Path SOURCE = Path.of("src/main/java/FormulaSharing.java");
    private static final int MOST_PARAMETERS = 7;
    private static final int MOST_LINES = 60;
    private static final int MOST_DEEP = 6;
    private static final int MOST_FIELDS = 40;
    private static final Set<TypeKind> NUMBERS = EnumSet.of(TypeKind.INT, TypeKind.LONG, TypeKind.SHORT, TypeKind.BYTE,
        TypeKind.CHAR, TypeKind.BOOLEAN);
    private static final Set<Modifier> HEADS = EnumSet.of(Modifier.PUBLIC, Modifier.PRIVATE, Modifier.STATIC);
    // Each with the rule that it breaks; of the loops, only the one whose end is easiest to see is let through.
    private static final Map<Kind, Integer> FORBIDDEN = Map.ofEntries(
        Map.entry(Kind.STRING_LITERAL, 2), Map.entry(Kind.FLOAT_LITERAL, 2), Map.entry(Kind.DOUBLE_LITERAL, 2),
        Map.entry(Kind.NEW_CLASS, 2), Map.entry(Kind.MEMBER_SELECT, 3), Map.entry(Kind.NULL_LITERAL, 4),
        Map.entry(Kind.NEW_ARRAY, 4), Map.entry(Kind.THROW, 6), Map.entry(Kind.TRY, 6), Map.entry(Kind.CATCH, 6),
        Map.entry(Kind.SYNCHRONIZED, 6), Map.entry(Kind.ASSERT, 6), Map.entry(Kind.INSTANCE_OF, 6),
        Map.entry(Kind.LAMBDA_EXPRESSION, 6), Map.entry(Kind.MEMBER_REFERENCE, 6), Map.entry(Kind.WHILE_LOOP, 8),
        Map.entry(Kind.DO_WHILE_LOOP, 8), Map.entry(Kind.ENHANCED_FOR_LOOP, 8));

    private static final Map<String, MethodTree> methods = new TreeMap<>();
    private static final Map<String, Set<String>> callsOf = new TreeMap<>();
    private static final Set<String> arrays = new HashSet<>();
    private static int wrong = 0;

    public static void main(String[] args) throws IOException {
        JavaCompiler compiler = ToolProvider.getSystemJavaCompiler();
        StandardJavaFileManager files = compiler.getStandardFileManager(null, null, null);
        JavacTask task = (JavacTask) compiler.getTask(null, files, null, List.of("-proc:none"), null,
            files.getJavaFileObjects(SOURCE));
        CompilationUnitTree unit = task.parse().iterator().next();
        oneFile();
        oneClass(unit);
        ClassTree type = (ClassTree) unit.getTypeDecls().get(0);
        fields(type);
        members(type);
        methods.values().forEach(LanguageTest::body);
        lengths(unit, Trees.instance(task).getSourcePositions());
        callsEnd();
        System.out.println(wrong == 0 ? "the class keeps to the language" : wrong + " breaks of the language");
        if (wrong != 0) {
            System.exit(1);
        }
    }

    private static void check(boolean holds, int rule, String what) {
        if (!holds) {
            wrong++;
            System.out.println("rule " + rule + ": " + what);
        }
    }

    private static void oneFile() throws IOException {
        try (Stream<Path> files = Files.walk(Path.of("src/main"))) {
            check(files.filter(Files::isRegularFile).allMatch(SOURCE::equals), 1, "one file");
        }
    }

    private static void oneClass(CompilationUnitTree unit) {
        check(unit.getPackage() == null, 1, "no package line");
        check(unit.getImports().isEmpty(), 3, "nothing is imported");
        check(unit.getTypeDecls().size() == 1, 1, "one class");
        ClassTree type = (ClassTree) unit.getTypeDecls().get(0);
        check(type.getKind() == Kind.CLASS && type.getSimpleName().contentEquals("FormulaSharing"), 1, "the class");
        check(type.getModifiers().getFlags().equals(EnumSet.of(Modifier.PUBLIC, Modifier.FINAL)), 1, "public, final");
        check(type.getExtendsClause() == null && type.getImplementsClause().isEmpty(), 1, "a class by itself");
    }

    private static boolean isNumber(Tree type) {
        return type instanceof PrimitiveTypeTree p && NUMBERS.contains(p.getPrimitiveTypeKind());
    }

    private static boolean isArrayOfNumbers(Tree type) {
        return type instanceof ArrayTypeTree a && isNumber(a.getType());
    }

    private static void fields(ClassTree type) {
        int count = 0;
        for (Tree member : type.getMembers()) {
            if (!(member instanceof VariableTree field)) {
                continue;
            }
            Set<Modifier> flags = field.getModifiers().getFlags();
            if (flags.contains(Modifier.STATIC)) {
                check(flags.contains(Modifier.FINAL), 5, "a constant: " + field);
                check(field.getType().toString().matches("int|long"), 5, "int or long: " + field);
                check(field.getInitializer().toString().matches("-?\\d+"), 5, "a plain number: " + field);
                continue;
            }
            count++;
            check(flags.contains(Modifier.PRIVATE), 1, "private: " + field);
            if (isArrayOfNumbers(field.getType())) {
                arrayField(field);
            } else {
                check(isNumber(field.getType()), 2, "a number or an array of numbers: " + field);
            }
        }
        check(count <= MOST_FIELDS, 10, "at most forty fields, not " + count);
    }

    private static void arrayField(VariableTree field) {
        arrays.add(field.getName().toString());
        check(field.getModifiers().getFlags().contains(Modifier.FINAL), 4, "made once: " + field);
        boolean made = field.getInitializer() instanceof NewArrayTree n && n.getDimensions().size() == 1
            && n.getDimensions().get(0).toString().matches("[1-9]\\d*|[A-Z_]+");
        check(made, 4, "made in its initialiser, of a constant length: " + field);
    }

    private static void members(ClassTree type) {
        for (Tree member : type.getMembers()) {
            check(!(member instanceof ClassTree), 1, "no nested class");
            check(!(member instanceof BlockTree), 5, "no initialiser in a block");
            if (member instanceof MethodTree method) {
                String name = method.getName().toString();
                // So a private method can't bear a public one's name, and the calls can be told by names alone.
                check(methods.put(name, method) == null, 1, "one method of each name: " + name);
                head(name, method);
            }
        }
    }

    private static void head(String name, MethodTree method) {
        check(method.getParameters().size() <= MOST_PARAMETERS, 10, "at most seven parameters: " + name);
        Tree answer = method.getReturnType();
        boolean plain = answer == null || isNumber(answer) || answer.toString().equals("void");
        check(plain, 4, "answers a number or nothing: " + name);
        check(method.getTypeParameters().isEmpty() && method.getThrows().isEmpty(), 6, "a plain head: " + name);
        check(HEADS.containsAll(method.getModifiers().getFlags()), 6, "public, private or static: " + name);
        for (VariableTree parameter : method.getParameters()) {
            boolean known = isNumber(parameter.getType()) || isArrayOfNumbers(parameter.getType());
            check(known, 2, "takes numbers or arrays of numbers: " + name);
            check(!parameter.toString().contains("..."), 4, "no array is made at a call of " + name);
        }
    }

    private static void body(MethodTree method) {
        String name = method.getName().toString();
        Set<String> calls = callsOf.computeIfAbsent(name, key -> new TreeSet<>());
        new TreeScanner<Void, Boolean>() {
            @Override
            public Void scan(Tree tree, Boolean inArguments) {
                if (tree != null && FORBIDDEN.containsKey(tree.getKind())) {
                    check(false, FORBIDDEN.get(tree.getKind()), "no " + tree.getKind() + " in " + name + ": " + tree);
                }
                return super.scan(tree, inArguments);
            }

            @Override
            public Void visitMethodInvocation(MethodInvocationTree call, Boolean inArguments) {
                // The compiler puts a call of the superclass's constructor into every constructor.
                if (call.getMethodSelect().toString().equals("super")) {
                    return null;
                }
                check(!inArguments, 10, "a call inside the arguments of another in " + name + ": " + call);
                calls.add(call.getMethodSelect().toString());
                return scan(call.getArguments(), true);
            }

            @Override
            public Void visitVariable(VariableTree variable, Boolean inArguments) {
                boolean plain = isNumber(variable.getType()) || isArrayOfNumbers(variable.getType());
                check(plain, 2, "a number or an array of numbers: " + variable);
                return super.visitVariable(variable, inArguments);
            }

            @Override
            public Void visitAssignment(AssignmentTree assignment, Boolean inArguments) {
                boolean array = arrays.contains(assignment.getVariable().toString());
                check(!array, 4, "no array field is assigned to in " + name + ": " + assignment);
                return super.visitAssignment(assignment, inArguments);
            }

            @Override
            public Void visitForLoop(ForLoopTree loop, Boolean inArguments) {
                loopEnds(name, loop);
                return super.visitForLoop(loop, inArguments);
            }
        }.scan(method.getBody(), false);
    }

    /** One counter goes by one towards a bound, and the loop's own lines leave both of them alone. */
    private static void loopEnds(String name, ForLoopTree loop) {
        String where = name + ": " + loop.getCondition();
        boolean counted = loop.getInitializer().size() == 1 && loop.getUpdate().size() == 1
            && loop.getInitializer().get(0) instanceof VariableTree && loop.getCondition() instanceof BinaryTree;
        check(counted, 8, "a loop of one counter in " + where);
        if (!counted) {
            return;
        }
        String counter = ((VariableTree) loop.getInitializer().get(0)).getName().toString();
        BinaryTree condition = (BinaryTree) loop.getCondition();
        String update = loop.getUpdate().get(0).getExpression().toString();
        boolean up = condition.getKind() == Kind.LESS_THAN || condition.getKind() == Kind.LESS_THAN_EQUAL;
        boolean down = condition.getKind() == Kind.GREATER_THAN || condition.getKind() == Kind.GREATER_THAN_EQUAL;
        check(condition.getLeftOperand().toString().equals(counter), 8, "the counter against a bound in " + where);
        boolean nears = up && update.equals(counter + "++") || down && update.equals(counter + "--");
        check(nears, 8, "the counter goes towards it in " + where);
        Set<String> fixed = namesIn(condition);
        fixed.retainAll(assignedIn(loop.getStatement()));
        check(fixed.isEmpty(), 8, "the loop's lines change " + fixed + " in " + where);
    }

    private static Set<String> namesIn(Tree tree) {
        Set<String> names = new TreeSet<>();
        new TreeScanner<Void, Void>() {
            @Override
            public Void visitIdentifier(IdentifierTree identifier, Void nothing) {
                names.add(identifier.getName().toString());
                return null;
            }
        }.scan(tree, null);
        return names;
    }

    private static Set<String> assignedIn(Tree tree) {
        Set<String> names = new TreeSet<>();
        new TreeScanner<Void, Void>() {
            @Override
            public Void visitAssignment(AssignmentTree assignment, Void nothing) {
                return assigned(assignment.getVariable());
            }

            @Override
            public Void visitCompoundAssignment(CompoundAssignmentTree assignment, Void nothing) {
                return assigned(assignment.getVariable());
            }

            @Override
            public Void visitUnary(UnaryTree unary, Void nothing) {
                boolean step = unary.toString().contains("++") || unary.toString().contains("--");
                return step ? assigned(unary.getExpression()) : null;
            }

            private Void assigned(ExpressionTree target) {
                names.add(target.toString().replaceAll("\\[.*", ""));
                return null;
            }
        }.scan(tree, null);
        return names;
    }

    private static void lengths(CompilationUnitTree unit, SourcePositions positions) {
        methods.forEach((name, method) -> {
            long first = unit.getLineMap().getLineNumber(positions.getStartPosition(unit, method));
            long last = unit.getLineMap().getLineNumber(positions.getEndPosition(unit, method));
            check(last - first < MOST_LINES, 10, "a short method: " + name);
        });
    }

    private static void callsEnd() {
        callsOf.forEach((name, calls) -> {
            for (String call : calls) {
                check(methods.containsKey(call), 3, name + " calls a method of the class: " + call);
            }
            check(depth(name, 1) <= MOST_DEEP, 8, "no recursion, and at most six calls deep: " + name);
        });
    }

    /** How deep calls go from here; a recursion counts as too deep. */
    private static int depth(String name, int above) {
        int deepest = above;
        if (above > MOST_DEEP) {
            return deepest;
        }
        for (String call : callsOf.getOrDefault(name, Set.of())) {
            deepest = Math.max(deepest, depth(call, above + 1));
        }
        return deepest;
    }
}
