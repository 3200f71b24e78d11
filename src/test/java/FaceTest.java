import java.lang.reflect.Constructor;
import java.lang.reflect.Field;
import java.lang.reflect.Method;
import java.lang.reflect.Modifier;
import java.util.Arrays;
import java.util.Set;
import java.util.TreeSet;

/** The document's public face: all of it, as it stands there, and nothing besides. */
public final class FaceTest {
    private static final Set<String> METHODS = Set.of(
            "int write(int, int)", "int wipe(int)", "int post(int, int)",
            "boolean disturb(int, int, int)", "boolean restart(int)", "int settle()",
            "int waiting(int, int)", "int arrived(int)", "int length(int, int)",
            "int byteAt(int, int, int)", "int take(int)", "int draft(int)",
            "boolean settled()", "int total(int)");
    private static final Set<String> CONSTANTS = Set.of("BAD", "FULL");
    private static final Due t = new Due();

    public static void main(String[] args) {
        theClass();
        theConstructor();
        theMethods();
        theConstants();
        t.end();
    }

    private static void theClass() {
        t.due("class is public and final", Modifier.PUBLIC | Modifier.FINAL, LinkStack.class.getModifiers());
        t.due("it extends nothing", true, LinkStack.class.getSuperclass() == Object.class);
        t.due("interfaces", 0, LinkStack.class.getInterfaces().length);
        t.due("nested classes", 0, LinkStack.class.getDeclaredClasses().length);
        t.due("package", "", LinkStack.class.getPackageName());
    }

    private static void theConstructor() {
        Constructor<?>[] made = LinkStack.class.getDeclaredConstructors();
        t.due("constructors", 1, made.length);
        t.due("constructor is public", Modifier.PUBLIC, made[0].getModifiers());
        t.due("constructor's parameters", 0, made[0].getParameterCount());
    }

    private static void theMethods() {
        Set<String> open = new TreeSet<>();
        Set<String> openNames = new TreeSet<>();
        for (Method m : LinkStack.class.getDeclaredMethods()) {
            if (!Modifier.isPrivate(m.getModifiers())) {
                open.add(text(m));
                openNames.add(m.getName());
                t.due(m + " is public and not static", Modifier.PUBLIC, m.getModifiers());
            }
        }
        t.due("the methods", new TreeSet<>(METHODS).toString(), open.toString());
        for (Method m : LinkStack.class.getDeclaredMethods()) {
            boolean hidden = Modifier.isPrivate(m.getModifiers());
            t.due(m + " bears a name of its own", false, hidden && openNames.contains(m.getName()));
        }
    }

    private static String text(Method m) {
        String parameters = String.join(", ", Arrays.stream(m.getParameterTypes()).map(Class::getName).toList());
        return m.getReturnType().getName() + " " + m.getName() + "(" + parameters + ")";
    }

    private static void theConstants() {
        Set<String> open = new TreeSet<>();
        for (Field f : LinkStack.class.getDeclaredFields()) {
            if (!Modifier.isPrivate(f.getModifiers())) {
                open.add(f.getName());
                int due = Modifier.PUBLIC | Modifier.STATIC | Modifier.FINAL;
                t.due(f + " is a public constant", due, f.getModifiers());
                t.due(f + " is an int", true, f.getType() == int.class);
            }
        }
        t.due("the constants", new TreeSet<>(CONSTANTS).toString(), open.toString());
        t.due("BAD", -1, LinkStack.BAD);
        t.due("FULL", -2, LinkStack.FULL);
    }
}
