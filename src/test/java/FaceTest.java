import java.lang.reflect.Constructor;
import java.lang.reflect.Field;
import java.lang.reflect.Method;
import java.lang.reflect.Modifier;
import java.util.Arrays;
import java.util.Set;
import java.util.TreeSet;

/** The public face of the document, member by member; nothing else can be seen from outside. */
public final class FaceTest {
    private static int wrong = 0;

    private static final Set<String> FACE = Set.of(
        "int BAD_PARTY = -1", "int BAD_GATE = -2", "int FULL = -3", "int STACK_HIGH = -4", "int STACK_LOW = -5",
        "int UNFINISHED = -6", "int BAD_SECRET = -7", "int NOT_SHARED = -8", "int REFUSED = -9",
        "FormulaSharing[int]", "int leaf[int]", "int gate[int, int]", "void clear[]", "int share[int]",
        "int add[int]", "int scale[int]", "int refresh[]", "int open[int]", "int qualified[]",
        "boolean minimal[int]", "int fewest[]", "int needed[]");

    public static void main(String[] args) throws Exception {
        face();
        System.out.println(wrong == 0 ? "the face is the document's" : wrong + " checks failed");
        if (wrong != 0) {
            System.exit(1);
        }
    }

    private static void check(boolean holds, String what) {
        if (!holds) {
            wrong++;
            System.out.println("does not hold: " + what);
        }
    }

    private static void face() throws Exception {
        Class<?> type = FormulaSharing.class;
        check(Modifier.isPublic(type.getModifiers()) && Modifier.isFinal(type.getModifiers()), "public and final");
        check(type.getDeclaredClasses().length == 0, "no nested class");
        Set<String> found = new TreeSet<>();
        for (Field f : type.getDeclaredFields()) {
            if (Modifier.isPrivate(f.getModifiers())) {
                continue;
            }
            int constant = Modifier.PUBLIC | Modifier.STATIC | Modifier.FINAL;
            check(f.getModifiers() == constant, f.getName() + " is public static final");
            found.add(f.getType() + " " + f.getName() + " = " + f.get(null));
        }
        for (Constructor<?> c : type.getDeclaredConstructors()) {
            check(Modifier.isPublic(c.getModifiers()), "the constructor is public");
            found.add(c.getName() + Arrays.toString(c.getParameterTypes()));
        }
        for (Method m : type.getDeclaredMethods()) {
            if (Modifier.isPrivate(m.getModifiers())) {
                continue;
            }
            check(m.getModifiers() == Modifier.PUBLIC, m.getName() + " is public and not static");
            found.add(m.getReturnType() + " " + m.getName() + Arrays.toString(m.getParameterTypes()));
        }
        check(found.equals(new TreeSet<>(FACE)), "the members are those of the document: " + found);
    }
}
