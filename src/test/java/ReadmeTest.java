import java.io.IOException;
import java.lang.reflect.Field;
import java.lang.reflect.Method;
import java.lang.reflect.Modifier;
import java.nio.file.Files;
import java.nio.file.Path;
import java.util.Arrays;
import java.util.List;
import java.util.Set;
import java.util.TreeSet;
import java.util.regex.Matcher;
import java.util.regex.Pattern;
import java.util.stream.Collectors;
import java.util.stream.Stream;

/** What README.md says of the use of the class and of its tests. */
public final class ReadmeTest {
    private static final Path TESTS = Path.of("src/test/java");
    private static final Pattern CALL = Pattern.compile("s\\.(\\w+)\\(([^)]*)\\); +// (\\w+|-\\d+): .+");
    private static final Pattern ROW = Pattern.compile("\\| `(\\w+)\\(([^)]*)\\)` \\| .+ \\|");
    private static final Pattern CODE = Pattern.compile("\\| `([A-Z_]+)` \\| .+ \\|");
    private static final Pattern TEST = Pattern.compile("\\| (\\w+Test) \\| .+ \\|");
    private static final Pattern HELPERS = Pattern.compile("(.+) are their helpers\\..*");

    private static List<String> lines;

    public static void main(String[] args) throws Exception {
        lines = Files.readAllLines(Path.of("README.md"));
        example();
        calls();
        codes();
        tests();
        helpers();
        Checks.end();
    }

    private static Method[] publicMethods() {
        return Arrays.stream(DocumentStores.class.getDeclaredMethods())
            .filter(m -> Modifier.isPublic(m.getModifiers())).toArray(Method[]::new);
    }

    private static int[] numbers(String arguments) {
        return Arrays.stream(arguments.split(", ")).filter(a -> !a.isEmpty())
            .mapToInt(Integer::parseInt).toArray();
    }

    private static String answer(DocumentStores s, String name, int[] arguments) throws Exception {
        for (Method m : publicMethods()) {
            if (m.getName().equals(name) && m.getParameterCount() == arguments.length) {
                Object[] boxed = Arrays.stream(arguments).boxed().toArray();
                return String.valueOf(m.invoke(s, boxed));
            }
        }
        return "no such call";
    }

    /** A code stands in the example by its name. */
    private static String inDigits(String answer) throws Exception {
        boolean isName = answer.matches("[A-Z_]+");
        return isName ? String.valueOf(DocumentStores.class.getField(answer).getInt(null)) : answer;
    }

    private static void example() throws Exception {
        Checks.part("the example");
        List<String> code = lines.subList(lines.indexOf("```java") + 1, lines.indexOf("```"));
        Checks.due("its first line", code.get(0), "DocumentStores s = new DocumentStores();");
        DocumentStores s = new DocumentStores();
        Set<String> used = new TreeSet<>();
        for (String line : code.subList(1, code.size())) {
            Matcher call = CALL.matcher(line);
            if (call.matches()) {
                used.add(call.group(1));
                String got = answer(s, call.group(1), numbers(call.group(2)));
                Checks.due(line, got, inDigits(call.group(3)));
            } else {
                Checks.due(line + " (empty or a remark)", line.isEmpty() || line.startsWith("//"), true);
            }
        }
        Set<String> all = Arrays.stream(publicMethods()).map(Method::getName)
            .collect(Collectors.toCollection(TreeSet::new));
        Checks.due("the calls that it shows", used.toString(), all.toString());
    }

    private static Set<String> found(Pattern row) {
        return lines.stream().map(row::matcher).filter(Matcher::matches).map(m -> m.group(1))
            .collect(Collectors.toCollection(TreeSet::new));
    }

    private static void calls() {
        Checks.part("the list of calls");
        Set<String> listed = new TreeSet<>();
        for (String line : lines) {
            Matcher row = ROW.matcher(line);
            if (row.matches()) {
                int arguments = (int) Stream.of(row.group(2).split(", ")).filter(a -> !a.isEmpty()).count();
                listed.add(row.group(1) + " with " + arguments);
            }
        }
        Set<String> all = new TreeSet<>();
        for (Method m : publicMethods()) {
            all.add(m.getName() + " with " + m.getParameterCount());
        }
        Checks.due("calls and the number of their arguments", listed.toString(), all.toString());
    }

    private static void codes() {
        Checks.part("the list of codes");
        Set<String> all = Arrays.stream(DocumentStores.class.getFields()).map(Field::getName)
            .collect(Collectors.toCollection(TreeSet::new));
        Checks.due("codes", found(CODE).toString(), all.toString());
    }

    private static Set<String> classesOf(boolean tests) throws IOException {
        try (Stream<Path> files = Files.list(TESTS)) {
            return files.map(f -> f.getFileName().toString().replace(".java", ""))
                .filter(name -> name.endsWith("Test") == tests)
                .collect(Collectors.toCollection(TreeSet::new));
        }
    }

    private static void tests() throws IOException {
        Checks.part("the lists of tests");
        Checks.due("tests", found(TEST).toString(), classesOf(true).toString());
        Checks.due(".ci/run can be run", Files.isExecutable(Path.of(".ci/run")), true);
    }

    private static void helpers() throws IOException {
        Checks.part("the helpers");
        Set<String> named = new TreeSet<>();
        for (String text : found(HELPERS)) {
            named.addAll(List.of(text.split(", | and ")));
        }
        Checks.due("helpers", named.toString(), classesOf(false).toString());
    }
}
