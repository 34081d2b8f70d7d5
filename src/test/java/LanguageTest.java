import com.sun.source.tree.ClassTree;
import com.sun.source.tree.CompilationUnitTree;
import com.sun.source.tree.ExpressionTree;
import com.sun.source.tree.ForLoopTree;
import com.sun.source.tree.IdentifierTree;
import com.sun.source.tree.MethodInvocationTree;
import com.sun.source.tree.MethodTree;
import com.sun.source.tree.NewArrayTree;
import com.sun.source.tree.StatementTree;
import com.sun.source.tree.Tree;
import com.sun.source.tree.TypeCastTree;
import com.sun.source.tree.VariableTree;
import com.sun.source.util.JavacTask;
import com.sun.source.util.SourcePositions;
import com.sun.source.util.TreeScanner;
import com.sun.source.util.Trees;
import java.io.IOException;
import java.lang.reflect.Constructor;
import java.lang.reflect.Field;
import java.lang.reflect.Method;
import java.lang.reflect.Modifier;
import java.nio.file.Path;
import java.util.Arrays;
import java.util.EnumSet;
import java.util.HashMap;
import java.util.List;
import java.util.Map;
import java.util.Set;
import java.util.TreeSet;
import java.util.stream.Collectors;
import javax.tools.JavaCompiler;
import javax.tools.StandardJavaFileManager;
import javax.tools.ToolProvider;

/** The document's public face, and those rules of LANGUAGE.md that a program can look at. */
public final class LanguageTest {
    private static final Path SOURCE = Path.of("src/main/java/DocumentStores.java");

    private static final List<String> FACE = List.of(
        "int edit(int,int,int)", "int editLeaf(int,int,int,int)", "int delete(int,int,int)",
        "int copy(int,int)", "int compact(int)", "int purge(int,int)", "int revisions()",
        "int revision(int,int)", "boolean knows(int,int)", "int body(int,int)",
        "int winner(int,int)", "int leaves(int,int)", "int leaf(int,int,int)",
        "int conflicts(int)", "int count(int)", "int stamp(int,int)", "int size(int)",
        "int viewed(int,int)", "int below(int,int)", "int total(int)", "boolean agree(int,int)");

    private static final Set<Class<?>> TYPES = Set.of(
        int.class, long.class, short.class, byte.class, char.class, boolean.class,
        int[].class, long[].class, short[].class, byte[].class, char[].class, boolean[].class);

    private static final Set<String> TYPE_NAMES =
        TYPES.stream().map(Class::getSimpleName).collect(Collectors.toSet());

    /** A member select would name a class of the library; loops are all counted for loops. */
    private static final Set<Tree.Kind> BANNED = EnumSet.of(
        Tree.Kind.PACKAGE, Tree.Kind.IMPORT, Tree.Kind.NEW_CLASS, Tree.Kind.THROW, Tree.Kind.TRY,
        Tree.Kind.MEMBER_SELECT, Tree.Kind.ANNOTATION, Tree.Kind.WHILE_LOOP, Tree.Kind.DO_WHILE_LOOP,
        Tree.Kind.SYNCHRONIZED, Tree.Kind.ASSERT, Tree.Kind.INSTANCE_OF,
        Tree.Kind.LAMBDA_EXPRESSION, Tree.Kind.MEMBER_REFERENCE, Tree.Kind.STRING_LITERAL,
        Tree.Kind.NULL_LITERAL, Tree.Kind.FLOAT_LITERAL, Tree.Kind.DOUBLE_LITERAL,
        Tree.Kind.INTERFACE, Tree.Kind.ENUM, Tree.Kind.RECORD);

    private static final Set<String> statics = new TreeSet<>();

    public static void main(String[] args) throws IOException {
        publicMembers();
        fields();
        source();
        Checks.end();
    }

    private static void publicMembers() {
        Checks.part("rule 1");
        Class<?> type = DocumentStores.class;
        Checks.due("class", Modifier.toString(type.getModifiers()), "public final");
        Checks.due("nested classes", type.getDeclaredClasses().length, 0);
        Constructor<?>[] constructors = type.getDeclaredConstructors();
        Checks.due("constructors", Arrays.toString(constructors), "[public DocumentStores()]");
        Set<String> found = new TreeSet<>();
        Set<String> publicNames = new TreeSet<>();
        for (Method m : type.getDeclaredMethods()) {
            if (Modifier.isPublic(m.getModifiers())) {
                publicNames.add(m.getName());
                found.add(Modifier.isStatic(m.getModifiers()) ? "static " + m : signature(m));
            }
        }
        Checks.due("public methods", found.toString(), new TreeSet<>(FACE).toString());
        for (Method m : type.getDeclaredMethods()) {
            if (!Modifier.isPublic(m.getModifiers())) {
                Checks.due(m + " private", Modifier.isPrivate(m.getModifiers()), true);
                Checks.due(m + " has a name of its own", !publicNames.contains(m.getName()), true);
            }
        }
    }

    private static String signature(Method m) {
        String types = Arrays.stream(m.getParameterTypes()).map(Class::getName)
            .collect(Collectors.joining(","));
        return m.getReturnType().getName() + " " + m.getName() + "(" + types + ")";
    }

    private static void fields() {
        Checks.part("rules 1, 2, 5 and 10");
        Set<String> constants = new TreeSet<>();
        int variable = 0;
        for (Field f : DocumentStores.class.getDeclaredFields()) {
            int modifiers = f.getModifiers();
            Checks.due(f + " has an allowed type", TYPES.contains(f.getType()), true);
            if (Modifier.isStatic(modifiers)) {
                boolean number = f.getType() == int.class || f.getType() == long.class;
                Checks.due(f + " final", Modifier.isFinal(modifiers), true);
                Checks.due(f + " an int or a long", number, true);
                statics.add(f.getName());
            } else {
                variable++;
            }
            if (f.getType().isArray()) {
                Checks.due(f + " final, so that no method assigns to it",
                    Modifier.isFinal(modifiers), true);
            }
            if (Modifier.isPublic(modifiers)) {
                constants.add(f.getName());
            } else {
                Checks.due(f + " private", Modifier.isPrivate(modifiers), true);
            }
        }
        Checks.due("public fields", constants.toString(), "[BAD_ARG, FULL, GONE, NONE]");
        Checks.due("at most 40 fields", variable <= 40, true);
    }

    private static void source() throws IOException {
        JavaCompiler compiler = ToolProvider.getSystemJavaCompiler();
        StandardJavaFileManager files = compiler.getStandardFileManager(null, null, null);
        JavacTask task = (JavacTask) compiler.getTask(null, files, null, List.of("-proc:none"),
            null, files.getJavaFileObjects(SOURCE));
        CompilationUnitTree unit = task.parse().iterator().next();
        Look look = new Look(unit, Trees.instance(task).getSourcePositions());
        look.scan(unit, null);
        look.callDepths();
        files.close();
    }

    /** Walks over the source and notes what breaks a rule. */
    private static final class Look extends TreeScanner<Void, Void> {
        private final CompilationUnitTree unit;
        private final SourcePositions positions;
        private final Map<String, Set<String>> calls = new HashMap<>();
        private String method = null;
        private boolean inArguments = false;

        Look(CompilationUnitTree unit, SourcePositions positions) {
            this.unit = unit;
            this.positions = positions;
        }

        private long line(long position) {
            return unit.getLineMap().getLineNumber(position);
        }

        private String at(Tree tree) {
            return "line " + line(positions.getStartPosition(unit, tree)) + ", ";
        }

        @Override
        public Void scan(Tree tree, Void nothing) {
            if (tree != null) {
                Checks.part("rules 2, 3, 4 and 6");
                Checks.due(at(tree) + "banned " + tree.getKind(), BANNED.contains(tree.getKind()), false);
            }
            return super.scan(tree, nothing);
        }

        @Override
        public Void visitClass(ClassTree tree, Void nothing) {
            Checks.part("rules 1 and 5");
            for (Tree member : tree.getMembers()) {
                Checks.due(at(member) + "an initialiser", member.getKind() == Tree.Kind.BLOCK, false);
            }
            return super.visitClass(tree, nothing);
        }

        @Override
        public Void visitVariable(VariableTree tree, Void nothing) {
            Checks.part("rule 2");
            String type = tree.getType().toString();
            Checks.due(at(tree) + "a variable of type " + type, TYPE_NAMES.contains(type), true);
            return super.visitVariable(tree, nothing);
        }

        @Override
        public Void visitTypeCast(TypeCastTree tree, Void nothing) {
            Checks.part("rule 6");
            Checks.due(at(tree) + "a cast of a number",
                tree.getType().getKind() == Tree.Kind.PRIMITIVE_TYPE, true);
            return super.visitTypeCast(tree, nothing);
        }

        @Override
        public Void visitNewArray(NewArrayTree tree, Void nothing) {
            Checks.part("rule 4");
            Checks.due(at(tree) + "an array made in a method", method != null, false);
            Checks.due(at(tree) + "dimensions", tree.getDimensions().size(), 1);
            for (ExpressionTree length : tree.getDimensions()) {
                boolean constant = length.getKind() == Tree.Kind.INT_LITERAL
                    || statics.contains(length.toString());
                Checks.due(at(tree) + "a length that is a constant", constant, true);
            }
            return super.visitNewArray(tree, nothing);
        }

        /** Its own lines show the end: a counter of its own, compared with a bound. */
        @Override
        public Void visitForLoop(ForLoopTree tree, Void nothing) {
            Checks.part("rule 8");
            StatementTree start = tree.getInitializer().isEmpty() ? null : tree.getInitializer().get(0);
            String counter = start instanceof VariableTree v ? v.getName().toString() : "no counter";
            String test = String.valueOf(tree.getCondition());
            String step = tree.getUpdate().stream().map(u -> u.getExpression().toString())
                .collect(Collectors.joining(", "));
            boolean rises = test.startsWith(counter + " < ") && step.equals(counter + "++");
            boolean falls = test.startsWith(counter + " > ") && step.equals(counter + "--");
            boolean always = !test.contains("||");
            Checks.due(at(tree) + "a counter against a bound", always && (rises || falls), true);
            return super.visitForLoop(tree, nothing);
        }

        @Override
        public Void visitMethod(MethodTree tree, Void nothing) {
            method = tree.getName().toString();
            calls.putIfAbsent(method, new TreeSet<>());
            long first = line(positions.getStartPosition(unit, tree));
            long last = line(positions.getEndPosition(unit, tree));
            Checks.part("rule 10");
            Checks.due(method + " has at most 60 lines", last - first < 60, true);
            Checks.due(method + " has at most 7 parameters", tree.getParameters().size() <= 7, true);
            Checks.part("rules 2 and 4");
            Checks.due(method + " answers no array and no object", tree.getReturnType() == null
                || tree.getReturnType().getKind() == Tree.Kind.PRIMITIVE_TYPE, true);
            super.visitMethod(tree, nothing);
            method = null;
            return null;
        }

        @Override
        public Void visitMethodInvocation(MethodInvocationTree tree, Void nothing) {
            Checks.part("rules 3 and 10");
            ExpressionTree called = tree.getMethodSelect();
            Checks.due(at(tree) + "a call of an own method", called instanceof IdentifierTree, true);
            Checks.due(at(tree) + "a call inside the arguments of another", inArguments, false);
            calls.get(method).add(called.toString());
            boolean outer = inArguments;
            inArguments = true;
            for (ExpressionTree argument : tree.getArguments()) {
                scan(argument, nothing);
            }
            inArguments = outer;
            return null;
        }

        /** Takes away the methods that call none that is left; what then stays is recursion. */
        void callDepths() {
            Checks.part("rules 8 and 10");
            Map<String, Set<String>> left = new HashMap<>(calls);
            int depth = 0;
            while (true) {
                Set<String> ends = left.keySet().stream()
                    .filter(m -> left.get(m).stream().noneMatch(left::containsKey))
                    .collect(Collectors.toSet());
                if (ends.isEmpty()) {
                    break;
                }
                left.keySet().removeAll(ends);
                depth++;
            }
            Checks.due("methods with recursion", left.keySet().toString(), "[]");
            Checks.due("calls at most six deep (" + depth + ")", depth <= 6, true);
        }
    }
}
