import java.lang.reflect.Constructor;
import java.lang.reflect.Field;
import java.lang.reflect.Method;
import java.lang.reflect.Modifier;
import java.util.Set;
import java.util.TreeSet;

/** The members that can be seen from outside are those of the document's public face, and no other. */
public final class FaceTest {
    private static final Set<String> FACE = Set.of(
        "int put(int, int, int)",
        "int remove(int, int)",
        "boolean has(int, int)",
        "int value(int, int)",
        "int count(int, int, int, int)",
        "int sum(int, int, int, int)",
        "int first(int, int, int, int)",
        "int nearest(int, int)",
        "int clear(int, int, int, int)");

    private static int wrong = 0;

    public static void main(String[] args) {
        methods();
        fields();
        rest();
        if (wrong > 0) {
            System.exit(1);
        }
    }

    private static void need(boolean holds, String what) {
        if (!holds) {
            wrong++;
            System.out.println("not so: " + what);
        }
    }

    private static String signature(Method m) {
        StringBuilder text = new StringBuilder(m.getReturnType() + " " + m.getName() + "(");
        for (Class<?> type : m.getParameterTypes()) {
            text.append(text.charAt(text.length() - 1) == '(' ? "" : ", ").append(type);
        }
        return text.append(")").toString();
    }

    private static void methods() {
        Set<String> seen = new TreeSet<>();
        Set<String> publicNames = new TreeSet<>();
        for (Method m : GridIndex.class.getDeclaredMethods()) {
            if (!Modifier.isPrivate(m.getModifiers())) {
                need(m.getModifiers() == Modifier.PUBLIC, m + " is public and nothing more");
                seen.add(signature(m));
                publicNames.add(m.getName());
            }
        }
        need(seen.equals(FACE), "the methods are those of the document; they are " + seen);
        for (Method m : GridIndex.class.getDeclaredMethods()) {
            need(!Modifier.isPrivate(m.getModifiers()) || !publicNames.contains(m.getName()),
                m + " has a name of its own");
            need(m.getParameterCount() <= 7, m + " has at most seven parameters");
        }
    }

    private static void fields() {
        for (Field f : GridIndex.class.getDeclaredFields()) {
            need(Modifier.isPrivate(f.getModifiers()), f + " is private");
            boolean number = f.getType() == int.class || f.getType() == long.class;
            need(!Modifier.isStatic(f.getModifiers()) || (number && Modifier.isFinal(f.getModifiers())),
                f + " is a constant if it is static");
        }
    }

    private static void rest() {
        Constructor<?>[] made = GridIndex.class.getDeclaredConstructors();
        need(made.length == 1 && made[0].getParameterCount() == 0 && Modifier.isPublic(made[0].getModifiers()),
            "there is one constructor, public and without arguments");
        need(GridIndex.class.getModifiers() == (Modifier.PUBLIC | Modifier.FINAL), "the class is public and final");
        need(GridIndex.class.getSuperclass() == Object.class, "the class extends no other");
        need(GridIndex.class.getInterfaces().length == 0, "the class has no interface");
        need(GridIndex.class.getDeclaredClasses().length == 0, "the class has no nested class");
    }
}
