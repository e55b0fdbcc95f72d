import java.lang.reflect.Constructor;
import java.lang.reflect.Field;
import java.lang.reflect.Method;
import java.lang.reflect.Modifier;
import java.util.Arrays;
import java.util.HashSet;
import java.util.List;
import java.util.Set;
import java.util.TreeSet;

/** The public face and the constants, read off the compiled class, and with them rule 1 of LANGUAGE.md. */
public final class FaceTest {
    private static final Check check = new Check("FaceTest");
    private static final List<String> FACE = List.of(
        "set 3", "wall 4", "weight 2", "fade 0", "scan 2", "point 2", "look 3", "stamp 2", "points 0", "score 1",
        "best 0", "match 0", "matchNear 3", "atLeast 1", "rival 0");
    private static final Set<String> FIELD_TYPES = Set.of(
        "int", "long", "short", "byte", "char", "boolean", "int[]", "long[]", "short[]", "byte[]", "char[]", "boolean[]");

    public static void main(String[] args) {
        constants();
        publicFace();
        fields();
        check.end();
    }

    private static void constants() {
        check.due("BAD_ARG", ScanMatcher.BAD_ARG, -1);
        check.due("FULL", ScanMatcher.FULL, -2);
        check.due("NONE", ScanMatcher.NONE, -4);
    }

    private static void publicFace() {
        Class<?> c = ScanMatcher.class;
        check.holds("the class is public and final", c.getModifiers() == (Modifier.PUBLIC | Modifier.FINAL));
        check.holds("it has no superclass of its own", c.getSuperclass() == Object.class && c.getInterfaces().length == 0);
        check.due("nested classes", c.getDeclaredClasses().length, 0);
        Constructor<?>[] made = c.getDeclaredConstructors();
        check.holds("one public constructor", made.length == 1 && Modifier.isPublic(made[0].getModifiers()));
        check.due("the constructor's parameters", made[0].getParameterCount(), 0);

        Set<String> open = new TreeSet<>();
        Set<String> openNames = new HashSet<>();
        for (Method m : c.getDeclaredMethods()) {
            if (!Modifier.isPrivate(m.getModifiers())) {
                check.holds(m + " is just public", m.getModifiers() == Modifier.PUBLIC);
                boolean ints = m.getReturnType() == int.class
                    && Arrays.stream(m.getParameterTypes()).allMatch(t -> t == int.class);
                check.holds(m + " is over int alone", ints);
                open.add(m.getName() + " " + m.getParameterCount());
                openNames.add(m.getName());
            }
        }
        check.holds("the public methods are the document's: " + open, open.equals(new TreeSet<>(FACE)));
        for (Method m : c.getDeclaredMethods()) {
            if (Modifier.isPrivate(m.getModifiers())) {
                check.holds(m + " bears a name of its own", !openNames.contains(m.getName()));
                check.holds(m + " takes seven parameters at most", m.getParameterCount() <= 7);
            }
        }
    }

    private static void fields() {
        Set<String> open = new TreeSet<>();
        int own = 0;
        for (Field f : ScanMatcher.class.getDeclaredFields()) {
            int mods = f.getModifiers();
            if (!Modifier.isPrivate(mods)) {
                open.add(f.getName());
            }
            if (Modifier.isStatic(mods)) {
                boolean number = f.getType() == int.class || f.getType() == long.class;
                check.holds(f + " is a constant of int or long", number && Modifier.isFinal(mods));
            } else {
                own++;
                check.holds(f + " is of a type that is allowed", FIELD_TYPES.contains(f.getType().getSimpleName()));
            }
        }
        check.holds("the public constants are the document's: " + open, open.equals(Set.of("BAD_ARG", "FULL", "NONE")));
        check.holds("at most forty fields", own <= 40);
    }
}
