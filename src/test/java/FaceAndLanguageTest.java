import java.io.IOException;
import java.lang.reflect.Constructor;
import java.lang.reflect.Field;
import java.lang.reflect.Method;
import java.lang.reflect.Modifier;
import java.nio.file.Files;
import java.nio.file.Path;
import java.util.Arrays;
import java.util.Set;
import java.util.TreeSet;
import java.util.regex.Pattern;

/** The public face, and those rules of LANGUAGE.md that a plain look at the class can tell. */
public final class FaceAndLanguageTest {
    private static final Path SOURCE = Path.of("src/main/java/LinkStack.java");
    private static final Set<String> FACE = Set.of(
            "int write(int, int)", "int wipe(int)", "int post(int, int)",
            "boolean disturb(int, int, int)", "boolean restart(int)", "int settle()",
            "int waiting(int, int)", "int arrived(int)", "int length(int, int)",
            "int byteAt(int, int, int)", "int take(int)", "int draft(int)",
            "boolean settled()", "int total(int)");
    private static final String FORBIDDEN = "\\b(throw|throws|try|catch|synchronized|assert|instanceof|null|import"
            + "|package|float|double|String|Math|Integer|System|Arrays|Object|enum|interface|record|protected)\\b|->|::";
    private static final Due t = new Due();

    public static void main(String[] args) throws IOException {
        methods();
        fields();
        source();
        t.end();
    }

    private static void methods() {
        Set<String> open = new TreeSet<>();
        Set<String> openNames = new TreeSet<>();
        for (Method m : LinkStack.class.getDeclaredMethods()) {
            if (!Modifier.isPrivate(m.getModifiers())) {
                open.add(text(m));
                openNames.add(m.getName());
                t.due(m + " is public and not static", Modifier.PUBLIC, m.getModifiers());
            }
        }
        t.due("the methods are those of the document: " + open, true, open.equals(FACE));
        for (Method m : LinkStack.class.getDeclaredMethods()) {
            t.due(m + " has few parameters", true, m.getParameterCount() <= 7);
            t.due(m + " answers no array", false, m.getReturnType().isArray());
            boolean hidden = Modifier.isPrivate(m.getModifiers());
            t.due(m + " bears a name of its own", false, hidden && openNames.contains(m.getName()));
        }
        Constructor<?>[] made = LinkStack.class.getDeclaredConstructors();
        t.due("constructors", 1, made.length);
        t.due("constructor is public", Modifier.PUBLIC, made[0].getModifiers());
        t.due("constructor's parameters", 0, made[0].getParameterCount());
        t.due("class is public and final", Modifier.PUBLIC | Modifier.FINAL, LinkStack.class.getModifiers());
        t.due("nested classes", 0, LinkStack.class.getDeclaredClasses().length);
    }

    private static String text(Method m) {
        String parameters = String.join(", ", Arrays.stream(m.getParameterTypes()).map(Class::getName).toList());
        return m.getReturnType().getName() + " " + m.getName() + "(" + parameters + ")";
    }

    private static void fields() {
        int changing = 0;
        for (Field f : LinkStack.class.getDeclaredFields()) {
            boolean face = f.getName().equals("BAD") || f.getName().equals("FULL");
            t.due(f + " is private or of the face", face, !Modifier.isPrivate(f.getModifiers()));
            if (Modifier.isStatic(f.getModifiers())) {
                boolean whole = f.getType() == int.class || f.getType() == long.class;
                t.due(f + " is a constant", true, whole && Modifier.isFinal(f.getModifiers()));
            } else {
                changing++;
            }
        }
        t.due("at most forty fields", true, changing <= 40);
    }

    private static void source() throws IOException {
        String code = Files.readString(SOURCE).replaceAll("(?s)/\\*.*?\\*/", "").replaceAll("//[^\n]*", "");
        Pattern.compile(FORBIDDEN).matcher(code).results()
                .forEach(found -> t.due("the word " + found.group(), 0, 1));
        Pattern.compile("\\bnew\\b[^;]*;").matcher(code).results()
                .forEach(found -> t.due(found.group(), true, found.group().matches("new (int|boolean)\\[[A-Z_]+\\];")));
        t.due("the source was read", true, code.contains("public final class LinkStack"));
    }
}
