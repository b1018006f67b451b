import java.io.IOException;
import java.lang.reflect.Field;
import java.lang.reflect.Method;
import java.lang.reflect.Modifier;
import java.nio.file.Files;
import java.nio.file.Path;
import java.util.List;
import java.util.Map;
import java.util.Set;
import java.util.TreeMap;
import java.util.TreeSet;
import java.util.regex.Matcher;
import java.util.regex.Pattern;
import java.util.stream.Collectors;
import java.util.stream.Stream;

/** What README.md says of the class and of its tests is so. */
public final class ReadmeTest {
    private static final Pattern CALL = Pattern.compile("x\\.(\\w+)\\(([^)]*)\\); *// (\\S+?):?(?: .*)?");
    private static final int LEAST_CALLS = 20;
    private static int wrong = 0;

    public static void main(String[] args) throws Exception {
        String readme = Files.readString(Path.of("README.md"));
        example(readme);
        calls(readme);
        constants(readme);
        tests(readme);
        System.out.println(wrong == 0 ? "what README.md says is so" : wrong + " things in README.md are not so");
        if (wrong != 0) {
            System.exit(1);
        }
    }

    private static void check(boolean holds, String what) {
        if (!holds) {
            wrong++;
            System.out.println("README.md: " + what);
        }
    }

    /** Every line of the example is called; what stands first in its comment is the answer. */
    private static void example(String readme) throws ReflectiveOperationException {
        Matcher block = Pattern.compile("(?s)```java\n(.*?)```").matcher(readme);
        check(block.find(), "there is an example");
        List<String> lines = block.group(1).lines().toList();
        Matcher made = Pattern.compile("FormulaSharing x = new FormulaSharing\\((\\d+)\\);.*").matcher(lines.get(0));
        check(made.matches(), "the example begins with a new object");
        FormulaSharing x = new FormulaSharing(Integer.parseInt(made.group(1)));
        Set<String> used = new TreeSet<>();
        for (String line : lines.subList(1, lines.size())) {
            Matcher call = CALL.matcher(line);
            if (!call.matches()) {
                check(false, "not a call with its answer: " + line);
                continue;
            }
            used.add(call.group(1));
            Object got = answer(x, call.group(1), call.group(2));
            check(got == null || got.equals(due(call.group(3))), line + " but it answers " + got);
        }
        check(lines.size() > LEAST_CALLS, "the example has calls: " + lines.size());
        check(used.equals(publicMethods().keySet()), "the example uses every call, not just " + used);
    }

    private static Object answer(FormulaSharing x, String name, String arguments) throws ReflectiveOperationException {
        Object[] numbers = Stream.of(arguments.split(", ")).filter(word -> !word.isEmpty())
            .map(word -> word.startsWith("0b") ? Integer.parseInt(word.substring(2), 2) : Integer.parseInt(word))
            .toArray();
        return publicMethods().get(name).invoke(x, numbers);
    }

    private static Object due(String word) throws ReflectiveOperationException {
        if (word.startsWith("FormulaSharing.")) {
            return FormulaSharing.class.getField(word.substring("FormulaSharing.".length())).get(null);
        }
        if (word.equals("true") || word.equals("false")) {
            return word.equals("true");
        }
        return Integer.parseInt(word);
    }

    private static Map<String, Method> publicMethods() {
        return Stream.of(FormulaSharing.class.getDeclaredMethods()).filter(m -> Modifier.isPublic(m.getModifiers()))
            .collect(Collectors.toMap(Method::getName, m -> m, (a, b) -> a, TreeMap::new));
    }

    private static void calls(String readme) {
        Set<String> rows = new TreeSet<>();
        Matcher row = Pattern.compile("(?m)^\\| `(\\w+)\\(([^)]*)\\)` \\|").matcher(readme);
        while (row.find()) {
            Method method = publicMethods().get(row.group(1));
            int parameters = row.group(2).isEmpty() ? 0 : row.group(2).split(",").length;
            check(method != null && method.getParameterCount() == parameters, "no such call: " + row.group());
            check(rows.add(row.group(1)), "twice in the table: " + row.group(1));
        }
        check(rows.equals(publicMethods().keySet()), "the table has every call, not just " + rows);
    }

    private static void constants(String readme) throws ReflectiveOperationException {
        Set<String> rows = new TreeSet<>();
        Matcher row = Pattern.compile("(?m)^\\| `(\\w+)` \\| (-?\\d+) \\|").matcher(readme);
        while (row.find()) {
            rows.add(row.group(1) + " " + row.group(2));
        }
        Set<String> constants = new TreeSet<>();
        for (Field field : FormulaSharing.class.getFields()) {
            constants.add(field.getName() + " " + field.get(null));
        }
        check(rows.equals(constants), "the constants are " + constants + ", not " + rows);
    }

    private static void tests(String readme) throws IOException {
        Set<String> listed = new TreeSet<>();
        Matcher item = Pattern.compile("(?m)^- `(\\w+)`:").matcher(readme);
        while (item.find()) {
            listed.add(item.group(1) + ".java");
        }
        try (Stream<Path> files = Files.walk(Path.of("src/test/java"))) {
            Set<String> there = files.filter(Files::isRegularFile).map(file -> file.getFileName().toString())
                .collect(Collectors.toCollection(TreeSet::new));
            check(listed.equals(there), "the tests are " + there + ", not " + listed);
        }
    }
}
