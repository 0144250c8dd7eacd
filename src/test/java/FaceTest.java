import java.lang.reflect.Constructor;
import java.lang.reflect.Field;
import java.lang.reflect.Method;
import java.lang.reflect.Modifier;
import java.util.Set;
import java.util.TreeSet;

/** The public face of the document, and what LANGUAGE.md says of members that reflection can see. */
public final class FaceTest {
    private static final Set<String> METHODS = new TreeSet<>(Set.of(
        "int letter(int)", "int any()", "int empty()", "int cat()", "int alt()", "int star()",
        "int lazy()", "int group(int)", "int steps()", "int depth()", "void discard()",
        "int define()", "int feed(int)", "void erase()", "int length()", "int find(int)",
        "int end(int)", "int groupIn(int,int)", "boolean spans(int,int)", "int groupInWhole(int)",
        "int count()", "int longest()"));
    private static final Set<String> CONSTANTS = new TreeSet<>(Set.of(
        "BAD_ARG=-1", "FULL=-2", "TOO_FEW=-3", "NONE=-4"));
    private static final Set<Class<?>> NUMBERS = Set.of(
        int.class, long.class, short.class, byte.class, char.class, boolean.class);

    private static int wrong = 0;

    public static void main(String[] args) throws IllegalAccessException {
        Class<?> c = RegexCaptures.class;
        check("the class is public and final", Modifier.isPublic(c.getModifiers()) && Modifier.isFinal(c.getModifiers()));
        check("it has no other class above it", c.getSuperclass() == Object.class && c.getInterfaces().length == 0);
        check("it has no class inside", c.getDeclaredClasses().length == 0);
        check("it has no package", c.getPackageName().isEmpty());
        constructors(c);
        methods(c);
        fields(c);
        System.out.println(wrong == 0 ? "the face is as due" : wrong + " things are not as due");
        if (wrong != 0) {
            System.exit(1);
        }
    }

    private static void check(String what, boolean holds) {
        if (!holds) {
            wrong++;
            System.out.println("does not hold: " + what);
        }
    }

    private static void constructors(Class<?> c) {
        Constructor<?>[] all = c.getDeclaredConstructors();
        check("there is one constructor", all.length == 1);
        check("it is public and takes nothing", Modifier.isPublic(all[0].getModifiers()) && all[0].getParameterCount() == 0);
    }

    private static void methods(Class<?> c) {
        Set<String> open = new TreeSet<>();
        Set<String> names = new TreeSet<>();
        for (Method m : c.getDeclaredMethods()) {
            if (Modifier.isPublic(m.getModifiers())) {
                open.add(told(m));
                names.add(m.getName());
                check(m + " is not static", !Modifier.isStatic(m.getModifiers()));
            }
        }
        check("the public methods are " + METHODS + ", not " + open, open.equals(METHODS));
        for (Method m : c.getDeclaredMethods()) {
            boolean hidden = Modifier.isPrivate(m.getModifiers());
            check(m + " is public or private", hidden || Modifier.isPublic(m.getModifiers()));
            check(m + " has a name of its own", !hidden || !names.contains(m.getName()));
            check(m + " takes at most seven", m.getParameterCount() <= 7);
            check(m + " answers no array", !m.getReturnType().isArray());
        }
    }

    private static String told(Method m) {
        StringBuilder s = new StringBuilder();
        for (Class<?> p : m.getParameterTypes()) {
            s.append(s.length() == 0 ? "" : ",").append(p.getSimpleName());
        }
        return m.getReturnType().getSimpleName() + " " + m.getName() + "(" + s + ")";
    }

    private static void fields(Class<?> c) throws IllegalAccessException {
        Set<String> open = new TreeSet<>();
        int own = 0;
        for (Field f : c.getDeclaredFields()) {
            boolean fixed = Modifier.isStatic(f.getModifiers());
            own += fixed ? 0 : 1;
            if (Modifier.isPublic(f.getModifiers())) {
                open.add(f.getName() + "=" + (fixed ? f.get(null) : "not static"));
                check(f + " is a final int", Modifier.isFinal(f.getModifiers()) && f.getType() == int.class);
            }
            check(f + " is public or private", Modifier.isPublic(f.getModifiers()) || Modifier.isPrivate(f.getModifiers()));
            Class<?> type = f.getType().isArray() ? f.getType().getComponentType() : f.getType();
            check(f + " is a number or an array of them", NUMBERS.contains(type));
            check(f + " is a constant", !fixed || Modifier.isFinal(f.getModifiers()) && !f.getType().isArray());
        }
        check("the constants are " + CONSTANTS + ", not " + open, open.equals(CONSTANTS));
        check("there are at most forty fields", own <= 40);
    }
}
