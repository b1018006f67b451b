import java.lang.reflect.Constructor;
import java.lang.reflect.Field;
import java.lang.reflect.Method;
import java.lang.reflect.Modifier;
import java.nio.file.Files;
import java.nio.file.Path;
import java.util.Arrays;
import java.util.Set;
import java.util.TreeSet;
import java.util.regex.Matcher;
import java.util.regex.Pattern;

/** The public face of the document, and the rules of LANGUAGE.md that can be seen from members and words. */
public final class FaceTest {
    private static int wrong = 0;

    private static final Set<String> FACE = Set.of(
        "int BAD_PARTY = -1", "int BAD_GATE = -2", "int FULL = -3", "int STACK_HIGH = -4", "int STACK_LOW = -5",
        "int UNFINISHED = -6", "int BAD_SECRET = -7", "int NOT_SHARED = -8", "int REFUSED = -9",
        "FormulaSharing[int]", "int leaf[int]", "int gate[int, int]", "void clear[]", "int share[int]",
        "int add[int]", "int scale[int]", "int refresh[]", "int open[int]", "int qualified[]",
        "boolean minimal[int]", "int fewest[]", "int needed[]");

    private static final String FORBIDDEN = "import|package|float|double|String|Math|Integer|System|Arrays|Object|null"
        + "|throw|throws|try|catch|synchronized|assert|instanceof|enum|record|interface|protected";

    public static void main(String[] args) throws Exception {
        face();
        privateNames();
        words();
        System.out.println(wrong == 0 ? "the face is the document's" : wrong + " checks failed");
        if (wrong != 0) {
            System.exit(1);
        }
    }

    private static void check(boolean holds, String what) {
        if (!holds) {
            wrong++;
            System.out.println("does not hold: " + what);
        }
    }

    private static void face() throws Exception {
        Class<?> type = FormulaSharing.class;
        check(Modifier.isPublic(type.getModifiers()) && Modifier.isFinal(type.getModifiers()), "public and final");
        check(type.getDeclaredClasses().length == 0, "no nested class");
        Set<String> found = new TreeSet<>();
        for (Field f : type.getDeclaredFields()) {
            if (Modifier.isPrivate(f.getModifiers())) {
                continue;
            }
            int constant = Modifier.PUBLIC | Modifier.STATIC | Modifier.FINAL;
            check(f.getModifiers() == constant, f.getName() + " is public static final");
            found.add(f.getType() + " " + f.getName() + " = " + f.get(null));
        }
        for (Constructor<?> c : type.getDeclaredConstructors()) {
            check(Modifier.isPublic(c.getModifiers()), "the constructor is public");
            found.add(c.getName() + Arrays.toString(c.getParameterTypes()));
        }
        for (Method m : type.getDeclaredMethods()) {
            if (Modifier.isPrivate(m.getModifiers())) {
                continue;
            }
            check(m.getModifiers() == Modifier.PUBLIC, m.getName() + " is public and not static");
            found.add(m.getReturnType() + " " + m.getName() + Arrays.toString(m.getParameterTypes()));
        }
        check(found.equals(new TreeSet<>(FACE)), "the members are those of the document: " + found);
    }

    private static void privateNames() {
        int fields = 0;
        for (Method m : FormulaSharing.class.getDeclaredMethods()) {
            boolean taken = FACE.stream().anyMatch(member -> member.contains(" " + m.getName() + "["));
            check(taken != Modifier.isPrivate(m.getModifiers()), "a private name of its own: " + m.getName());
            check(m.getParameterCount() <= 7, "at most seven parameters: " + m.getName());
        }
        for (Field f : FormulaSharing.class.getDeclaredFields()) {
            boolean constant = Modifier.isStatic(f.getModifiers()) && Modifier.isFinal(f.getModifiers());
            check(!Modifier.isStatic(f.getModifiers()) || constant, "static only if constant: " + f.getName());
            check(!constant || f.getType() == int.class || f.getType() == long.class, "int or long: " + f.getName());
            check(!f.getType().isArray() || Modifier.isFinal(f.getModifiers()), "final array: " + f.getName());
            fields += constant ? 0 : 1;
        }
        check(fields <= 40, "at most forty fields, not " + fields);
    }

    private static void words() throws Exception {
        String source = Files.readString(Path.of("src/main/java/FormulaSharing.java"));
        String code = source.replaceAll("(?s)/\\*.*?\\*/", "").replaceAll("//[^\n]*", "");
        Matcher word = Pattern.compile("\\b(" + FORBIDDEN + ")\\b").matcher(code);
        while (word.find()) {
            check(false, "LANGUAGE.md leaves no '" + word.group() + "'");
        }
        for (String line : code.split("\n")) {
            boolean arrayField = line.matches(" {4}private final \\w+\\[] \\w+ = new \\w+\\[[A-Z_]+];");
            check(!line.matches(".*\\bnew\\b.*") || arrayField, "arrays are made in field initialisers: " + line);
        }
    }
}
