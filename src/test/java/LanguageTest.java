import com.sun.source.tree.ArrayTypeTree;
import com.sun.source.tree.AssignmentTree;
import com.sun.source.tree.ClassTree;
import com.sun.source.tree.CompilationUnitTree;
import com.sun.source.tree.DoWhileLoopTree;
import com.sun.source.tree.ExpressionTree;
import com.sun.source.tree.ForLoopTree;
import com.sun.source.tree.IdentifierTree;
import com.sun.source.tree.MethodInvocationTree;
import com.sun.source.tree.MethodTree;
import com.sun.source.tree.NewArrayTree;
import com.sun.source.tree.PrimitiveTypeTree;
import com.sun.source.tree.Tree;
import com.sun.source.tree.TypeCastTree;
import com.sun.source.tree.VariableTree;
import com.sun.source.tree.WhileLoopTree;
import com.sun.source.util.JavacTask;
import com.sun.source.util.SourcePositions;
import com.sun.source.util.TreeScanner;
import com.sun.source.util.Trees;
import java.io.IOException;
import java.nio.file.Path;
import java.util.ArrayList;
import java.util.EnumSet;
import java.util.HashSet;
import java.util.List;
import java.util.Map;
import java.util.Set;
import java.util.TreeMap;
import java.util.TreeSet;
import java.util.function.Consumer;
import javax.lang.model.element.Modifier;
import javax.lang.model.type.TypeKind;
import javax.tools.JavaCompiler;
import javax.tools.StandardJavaFileManager;
import javax.tools.ToolProvider;

/**
 * The program's text keeps the rules of LANGUAGE.md. What can't be seen in the text alone is left to the other
 * tests: rule 7 to ModelTest and TermsTest, the public members of rule 1 to FaceTest.
 */
public final class LanguageTest {
    private static final Path PROGRAM = Path.of("src", "main", "java", "LineageEngine.java");
    private static final Set<Tree.Kind> RULED_OUT = EnumSet.of(
        Tree.Kind.THROW, Tree.Kind.TRY, Tree.Kind.SYNCHRONIZED, Tree.Kind.ASSERT, Tree.Kind.INSTANCE_OF,
        Tree.Kind.LAMBDA_EXPRESSION, Tree.Kind.MEMBER_REFERENCE);
    private static final Set<Tree.Kind> NO_NUMBERS = EnumSet.of(
        Tree.Kind.FLOAT_LITERAL, Tree.Kind.DOUBLE_LITERAL, Tree.Kind.STRING_LITERAL, Tree.Kind.NULL_LITERAL);
    private static final Set<TypeKind> NUMBERS = EnumSet.of(
        TypeKind.INT, TypeKind.LONG, TypeKind.SHORT, TypeKind.BYTE, TypeKind.CHAR, TypeKind.BOOLEAN);
    private static final Set<Tree.Kind> COMPARISONS = EnumSet.of(
        Tree.Kind.LESS_THAN, Tree.Kind.LESS_THAN_EQUAL, Tree.Kind.GREATER_THAN, Tree.Kind.GREATER_THAN_EQUAL);
    private static final int MOST_PARAMETERS = 7;
    private static final int MOST_LINES = 60;
    private static final int MOST_DEPTH = 6;
    private static final int MOST_FIELDS = 40;

    private final CompilationUnitTree file;
    private final SourcePositions positions;
    private final ClassTree program;
    private final Map<String, MethodTree> methods = new TreeMap<>();
    private final List<VariableTree> fields = new ArrayList<>();

    public static void main(String[] args) throws IOException {
        JavaCompiler compiler = ToolProvider.getSystemJavaCompiler();
        try (StandardJavaFileManager files = compiler.getStandardFileManager(null, null, null)) {
            JavacTask task = (JavacTask) compiler.getTask(null, files, null, List.of("--release", "17"), null,
                files.getJavaFileObjects(PROGRAM));
            CompilationUnitTree file = task.parse().iterator().next();
            new LanguageTest(file, Trees.instance(task).getSourcePositions()).rules();
        }
        Sentences.end();
    }

    private LanguageTest(CompilationUnitTree file, SourcePositions positions) {
        this.file = file;
        this.positions = positions;
        this.program = (ClassTree) file.getTypeDecls().get(0);
        for (Tree member : program.getMembers()) {
            if (member instanceof MethodTree method) {
                methods.put(method.getName().toString(), method);
            } else if (member instanceof VariableTree field) {
                fields.add(field);
            }
        }
    }

    private void rules() {
        Sentences.holds("rule 1: One class: the one of the document, public and final", this::oneClass);
        Sentences.holds("rule 1: No private method bears the name of a public one.", this::oneMethodOfEachName);
        Sentences.holds("rule 2: Types: int, long, short, byte, char, boolean, and one-dimensional arrays of these.",
            this::types);
        Sentences.holds("rule 3: No class of the Java library", this::onlyOwnNames);
        Sentences.holds("rule 4: Arrays are made in a field's initialiser, .. each once", this::arraysMadeInFields);
        Sentences.holds("rule 4: An array is never answered by a method", this::noArrayAnswered);
        Sentences.holds("rule 4: no method assigns to an array field", this::noArrayAssigned);
        Sentences.holds("rule 5: Static fields are compile-time constants of int or long alone.", this::constants);
        Sentences.holds("rule 6: No throw, try, catch ..", () -> everyTree(program, tree ->
            refuse(RULED_OUT.contains(tree.getKind()), tree)));
        Sentences.holds("rule 8: No recursion, .. rule 10: calls go at most six deep", this::depth);
        Sentences.holds("rule 8: Every loop has an end that can be seen from its own lines", this::loopsHaveBounds);
        Sentences.holds("rule 10: A method takes at most seven parameters", () -> methods.values().forEach(method ->
            refuse(method.getParameters().size() > MOST_PARAMETERS, method)));
        Sentences.holds("rule 10: no call stands inside the arguments of another call", this::noCallInArguments);
        Sentences.holds("rule 10: Methods stay short (some sixty lines)", () -> methods.values().forEach(method ->
            refuse(lines(method) > MOST_LINES, method)));
        Sentences.holds("rule 10: at most some forty fields beside its constants", () ->
            refuse(fields.stream().filter(field -> !isStatic(field)).count() > MOST_FIELDS, program));
    }

    private void oneClass() {
        refuse(file.getTypeDecls().size() != 1 || file.getPackage() != null || !file.getImports().isEmpty(), program);
        refuse(!program.getModifiers().getFlags().equals(Set.of(Modifier.PUBLIC, Modifier.FINAL)), program);
        everyTree(program, tree -> refuse(tree instanceof ClassTree && tree != program, tree));
    }

    /** Stricter than the rule, since the other rules here find a method by its name. */
    private void oneMethodOfEachName() {
        for (Tree member : program.getMembers()) {
            refuse(member instanceof MethodTree method && methods.get(method.getName().toString()) != method, member);
        }
    }

    private void types() {
        everyTree(program, tree -> {
            refuse(NO_NUMBERS.contains(tree.getKind()), tree);
            if (tree instanceof VariableTree variable) {
                refuse(!isNumber(variable.getType()) && !isArray(variable.getType()), tree);
            } else if (tree instanceof TypeCastTree cast) {
                refuse(!isNumber(cast.getType()), tree);
            } else if (tree instanceof PrimitiveTypeTree type) {
                refuse(!isNumber(type) && type.getPrimitiveTypeKind() != TypeKind.VOID, tree);
            }
        });
    }

    private void onlyOwnNames() {
        Set<String> own = new HashSet<>(methods.keySet());
        everyTree(program, tree -> {
            if (tree instanceof VariableTree variable) {
                own.add(variable.getName().toString());
            }
        });
        // The compiler's tree has a call of the parent's constructor only where the text has one.
        everyTree(program, tree -> {
            refuse(tree instanceof IdentifierTree name && !own.contains(name.getName().toString()), tree);
            refuse(tree.getKind() == Tree.Kind.MEMBER_SELECT || tree.getKind() == Tree.Kind.NEW_CLASS, tree);
        });
    }

    private void arraysMadeInFields() {
        Set<Tree> inFields = new HashSet<>();
        for (VariableTree field : fields) {
            if (field.getInitializer() instanceof NewArrayTree made) {
                inFields.add(made);
                refuse(made.getDimensions().size() != 1 || made.getInitializers() != null, made);
                refuse(!isConstantLength(made.getDimensions().get(0)), made);
            } else {
                refuse(isArray(field.getType()), field);
            }
        }
        everyTree(program, tree -> refuse(tree instanceof NewArrayTree && !inFields.contains(tree), tree));
    }

    private boolean isConstantLength(ExpressionTree length) {
        return length.getKind() == Tree.Kind.INT_LITERAL || fields.stream().anyMatch(field ->
            isStatic(field) && length.toString().equals(field.getName().toString()));
    }

    private void noArrayAnswered() {
        for (MethodTree method : methods.values()) {
            refuse(method.getReturnType() instanceof ArrayTypeTree, method);
        }
    }

    private void noArrayAssigned() {
        Set<String> arrays = new HashSet<>();
        for (VariableTree field : fields) {
            if (isArray(field.getType())) {
                arrays.add(field.getName().toString());
            }
        }
        everyTree(program, tree -> refuse(tree instanceof AssignmentTree assignment
            && arrays.contains(assignment.getVariable().toString()), tree));
    }

    private void constants() {
        for (Tree member : program.getMembers()) {
            refuse(member.getKind() == Tree.Kind.BLOCK, member);
        }
        for (VariableTree field : fields) {
            if (isStatic(field)) {
                refuse(!Set.of("int", "long").contains(field.getType().toString()), field);
                refuse(!field.getModifiers().getFlags().contains(Modifier.FINAL), field);
                refuse(field.getInitializer() == null, field);
                everyTree(field, tree -> refuse(tree instanceof MethodInvocationTree, tree));
            }
        }
    }

    /** How deep calls go: a method that calls none is at depth 1, any other one below the deepest it calls. */
    private void depth() {
        Map<String, Integer> depths = new TreeMap<>();
        for (int round = 0; round <= methods.size(); round++) {
            for (MethodTree method : methods.values()) {
                int below = 0;
                for (String called : called(method)) {
                    below = Math.max(below, depths.getOrDefault(called, 0));
                }
                depths.put(method.getName().toString(), below + 1);
            }
        }
        // A ring of calls grows with every round, so it ends above the bound as well.
        methods.forEach((name, method) -> refuse(depths.get(name) > MOST_DEPTH, method));
    }

    /** A counter is held against a bound in the loop's condition, not only somewhere in its body. */
    private void loopsHaveBounds() {
        everyTree(program, tree -> {
            if (tree instanceof ForLoopTree loop) {
                refuse(!comparesNumbers(loop.getCondition()) || loop.getUpdate().isEmpty(), tree);
            } else if (tree instanceof WhileLoopTree loop) {
                refuse(!comparesNumbers(loop.getCondition()), tree);
            } else if (tree instanceof DoWhileLoopTree loop) {
                refuse(!comparesNumbers(loop.getCondition()), tree);
            }
        });
    }

    private static boolean comparesNumbers(Tree condition) {
        Set<Tree.Kind> kinds = EnumSet.noneOf(Tree.Kind.class);
        everyTree(condition, tree -> kinds.add(tree.getKind()));
        kinds.retainAll(COMPARISONS);
        return !kinds.isEmpty();
    }

    private static Set<String> called(MethodTree method) {
        Set<String> called = new TreeSet<>();
        everyTree(method, tree -> {
            if (tree instanceof MethodInvocationTree call) {
                called.add(call.getMethodSelect().toString());
            }
        });
        return called;
    }

    private void noCallInArguments() {
        everyTree(program, tree -> {
            if (tree instanceof MethodInvocationTree call) {
                call.getArguments().forEach(argument -> everyTree(argument, inside ->
                    refuse(inside instanceof MethodInvocationTree, inside)));
            }
        });
    }

    private static boolean isStatic(VariableTree field) {
        return field.getModifiers().getFlags().contains(Modifier.STATIC);
    }

    private static boolean isNumber(Tree type) {
        return type instanceof PrimitiveTypeTree primitive
            && NUMBERS.contains(primitive.getPrimitiveTypeKind());
    }

    private static boolean isArray(Tree type) {
        return type instanceof ArrayTypeTree array && isNumber(array.getType());
    }

    private static void everyTree(Tree root, Consumer<Tree> look) {
        new TreeScanner<Void, Void>() {
            @Override
            public Void scan(Tree tree, Void nothing) {
                if (tree != null) {
                    look.accept(tree);
                }
                return super.scan(tree, nothing);
            }
        }.scan(root, null);
    }

    private long lines(Tree tree) {
        return line(positions.getEndPosition(file, tree)) - line(positions.getStartPosition(file, tree)) + 1;
    }

    private long line(long position) {
        return file.getLineMap().getLineNumber(position);
    }

    private void refuse(boolean broken, Tree where) {
        if (broken) {
            Sentences.fault(PROGRAM + ", line " + line(positions.getStartPosition(file, where)));
        }
    }
}
