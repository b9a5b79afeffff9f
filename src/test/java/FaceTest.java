import java.lang.reflect.Field;
import java.lang.reflect.Method;
import java.lang.reflect.Modifier;
import java.util.Arrays;
import java.util.Set;
import java.util.TreeSet;

/** The public face of the document, and no more than that. */
public final class FaceTest {
    private static final Due due = new Due();

    private static final Set<String> METHODS = Set.of(
            "boolean begin[int]",
            "boolean way[int, int, int]",
            "boolean always[int, boolean]",
            "int function[int]",
            "boolean code[int, int, int, int]",
            "boolean handler[int, int, int, int]",
            "int forge[]",
            "boolean take[]",
            "int certify[boolean]",
            "int of[boolean, int, int, int]",
            "long may[boolean, int, int]",
            "long set[boolean, int, int]",
            "int size[boolean, int, int]",
            "int range[boolean, int, int, int]",
            "boolean goes[int, int, int]",
            "int look[int]");

    public static void main(String[] args) {
        Class<?> face = GuardFlow.class;
        due.is("NONE", GuardFlow.NONE, -1);
        due.is("public and final", face.getModifiers(), Modifier.PUBLIC | Modifier.FINAL);
        due.is("one constructor", face.getDeclaredConstructors().length, 1);
        due.is("it is public", face.getConstructors().length, 1);
        due.is("without arguments", face.getConstructors()[0].getParameterCount(), 0);
        methods(face);
        fields(face);
        for (Class<?> inner : face.getDeclaredClasses()) {
            due.is(inner + " is static", Modifier.isStatic(inner.getModifiers()), true);
            due.is(inner + " is hidden", Modifier.isPublic(inner.getModifiers()), false);
        }
        due.end();
    }

    private static void methods(Class<?> face) {
        Set<String> seen = new TreeSet<>();
        Set<String> names = new TreeSet<>();
        for (Method m : face.getDeclaredMethods()) {
            if (!Modifier.isPrivate(m.getModifiers())) {
                due.is(m + " is public, no more", m.getModifiers(), Modifier.PUBLIC);
                String parameters = Arrays.stream(m.getParameterTypes()).map(Class::getName)
                        .toList().toString();
                seen.add(m.getReturnType().getName() + " " + m.getName() + parameters);
                names.add(m.getName());
            }
        }
        due.is("the methods " + seen, seen.equals(METHODS), true);
        for (Method m : face.getDeclaredMethods()) {
            if (Modifier.isPrivate(m.getModifiers())) {
                due.is(m + " bears a public name", names.contains(m.getName()), false);
            }
        }
    }

    private static void fields(Class<?> face) {
        for (Field f : face.getDeclaredFields()) {
            int modifiers = f.getModifiers();
            due.is(f + " is private or NONE",
                    Modifier.isPrivate(modifiers) || f.getName().equals("NONE"), true);
            due.is(f + " is final if static",
                    !Modifier.isStatic(modifiers) || Modifier.isFinal(modifiers), true);
        }
    }
}
