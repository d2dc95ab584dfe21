import java.lang.reflect.Constructor;
import java.lang.reflect.Field;
import java.lang.reflect.Method;
import java.lang.reflect.Modifier;
import java.util.Set;
import java.util.TreeSet;

/** The public face is the document's, and nothing more can be seen. */
public final class FaceTest {
    private static final Set<String> FACE = new TreeSet<>(Set.of(
            "boolean type(char)", "void wipe()", "int load()", "int react(int)", "boolean restart()",
            "int outputs()", "int open()", "int registers(int)", "int look(int)", "int states()",
            "int found(int)"));

    public static void main(String[] args) {
        Check check = new Check();
        Class<?> c = ReactWires.class;
        check.same("the class is public and final", Modifier.isPublic(c.getModifiers()) && Modifier.isFinal(c.getModifiers()), true);
        Constructor<?>[] constructors = c.getDeclaredConstructors();
        check.same("constructors", constructors.length, 1);
        check.same("the constructor is public", Modifier.isPublic(constructors[0].getModifiers()), true);
        check.same("the constructor's parameters", constructors[0].getParameterCount(), 0);
        Set<String> seen = new TreeSet<>();
        Set<String> names = new TreeSet<>();
        for (Method m : c.getDeclaredMethods()) {
            if (Modifier.isPrivate(m.getModifiers())) {
                continue;
            }
            check.same(m + " is public", Modifier.isPublic(m.getModifiers()), true);
            StringBuilder text = new StringBuilder(m.getReturnType() + " " + m.getName() + "(");
            for (Class<?> p : m.getParameterTypes()) {
                text.append(p);
            }
            seen.add(text.append(")").toString());
            names.add(m.getName());
        }
        check.same("the public methods are those of the document: " + seen, seen.equals(FACE), true);
        for (Field f : c.getDeclaredFields()) {
            check.same(f + " is private", Modifier.isPrivate(f.getModifiers()), true);
        }
        checkInside(check, c, names);
        check.end();
    }

    private static void checkInside(Check check, Class<?> c, Set<String> names) {
        for (Class<?> inner : c.getDeclaredClasses()) {
            boolean hidden = !Modifier.isPublic(inner.getModifiers()) && !Modifier.isProtected(inner.getModifiers());
            check.same(inner + " is static and hidden", hidden && Modifier.isStatic(inner.getModifiers()), true);
            for (Method m : inner.getDeclaredMethods()) {
                check.same(m + " bears the name of a public method", names.contains(m.getName()), false);
            }
        }
    }
}
