import java.io.IOException;
import java.lang.reflect.Array;
import java.lang.reflect.Field;
import java.lang.reflect.Method;
import java.lang.reflect.Modifier;
import java.nio.file.Files;
import java.nio.file.Path;
import java.util.List;
import java.util.Map;
import java.util.Set;
import java.util.TreeMap;
import java.util.TreeSet;
import java.util.regex.MatchResult;
import java.util.regex.Pattern;

/**
 * Those rules of LANGUAGE.md that a plain look at the source can tell. It reads the source as it is
 * laid out here (members indented by four blanks), and says so when it finds another number of
 * methods than the compiled class has.
 */
public final class LanguageTest {
    private static final Path SOURCE = Path.of("src/main/java/LinkStack.java");
    private static final Pattern METHOD =
            Pattern.compile("(?ms)^    (?:public|private)(?: static)? \\w+ (\\w+)\\([^)]*\\) \\{\\n(.*?)^    \\}$");
    private static final Pattern CALL = Pattern.compile("\\b(?!(?:if|for|while|switch|return)\\b)(\\w+)\\s*\\(");
    private static final Pattern LOOP =
            Pattern.compile("for \\(int (\\w+) = [^;]+; \\1 < [^;]+; \\1(?:\\+\\+| \\+= [A-Z]+)\\)");
    private static final String FORBIDDEN = "\\b(throw|throws|try|catch|synchronized|assert|instanceof|null|import"
            + "|package|float|double|enum|interface|record|protected)\\b|\\bstatic \\{|->|::";
    private static final Due t = new Due();

    private static String code;
    private static final Map<String, String> bodies = new TreeMap<>();

    public static void main(String[] args) throws IOException, ReflectiveOperationException {
        read();
        words();
        types();
        arrays();
        staticFields();
        fieldCount();
        callsOfOwnMethodsOnly();
        noCallInsideArguments();
        callDepth();
        loopsCount();
        sizes();
        t.end();
    }

    private static void read() throws IOException {
        code = Files.readString(SOURCE).replaceAll("(?s)/\\*.*?\\*/", "").replaceAll("//[^\n]*", "");
        METHOD.matcher(code).results().forEach(found -> bodies.put(found.group(1), found.group(2)));
        t.due("methods found in the source", LinkStack.class.getDeclaredMethods().length, bodies.size());
    }

    private static void words() {
        t.about("rules 2, 3 and 6: words that are not used");
        t.due("forbidden words", "", found(FORBIDDEN));
        // Constants are all capitals, so any other word with a capital first names a class.
        t.due("classes named", "LinkStack LinkStack", found("\\b[A-Z]\\w*[a-z]\\w*\\b"));
    }

    private static String found(String pattern) {
        List<String> all = Pattern.compile(pattern).matcher(code).results().map(MatchResult::group).toList();
        return String.join(" ", all);
    }

    private static void types() {
        t.about("rule 2: numbers, booleans and one-dimensional arrays of them");
        for (Field f : LinkStack.class.getDeclaredFields()) {
            t.due(f.toString(), true, isAllowed(f.getType()));
        }
        for (Method m : LinkStack.class.getDeclaredMethods()) {
            for (Class<?> type : m.getParameterTypes()) {
                t.due(m + ": " + type, true, isAllowed(type));
            }
        }
    }

    private static boolean isAllowed(Class<?> type) {
        Class<?> single = type.isArray() ? type.getComponentType() : type;
        return single.isPrimitive() && single != float.class && single != double.class;
    }

    private static void arrays() throws ReflectiveOperationException {
        t.about("rule 4: arrays are made once, in the fields' initialisers, and never answered");
        int made = 0;
        for (Field f : LinkStack.class.getDeclaredFields()) {
            if (f.getType().isArray()) {
                made++;
                f.setAccessible(true);
                t.due(f + " is final", true, Modifier.isFinal(f.getModifiers()));
                t.due(f + " has a place", true, Array.getLength(f.get(new LinkStack())) >= 1);
            }
        }
        String initialiser = "(?m)^    private final (int|boolean)\\[\\] \\w+ = new \\1\\[[A-Z_]+\\];$";
        t.due("initialisers", made, Pattern.compile(initialiser).matcher(code).results().count());
        t.due("made anywhere", made, Pattern.compile("\\bnew\\b").matcher(code).results().count());
        for (Method m : LinkStack.class.getDeclaredMethods()) {
            t.due(m + " answers no array", false, m.getReturnType().isArray());
        }
    }

    private static void staticFields() {
        t.about("rule 5: static fields are constants of int or long");
        for (Field f : LinkStack.class.getDeclaredFields()) {
            if (Modifier.isStatic(f.getModifiers())) {
                boolean whole = f.getType() == int.class || f.getType() == long.class;
                t.due(f.toString(), true, whole && Modifier.isFinal(f.getModifiers()));
            }
        }
    }

    private static void fieldCount() {
        t.about("rule 10: at most some forty fields");
        int count = 0;
        for (Field f : LinkStack.class.getDeclaredFields()) {
            count += Modifier.isStatic(f.getModifiers()) ? 0 : 1;
        }
        t.due(count + " fields", true, count <= 40);
    }

    private static void callsOfOwnMethodsOnly() {
        t.about("rule 3: nothing but the class's own methods is called");
        bodies.forEach((name, body) -> CALL.matcher(body).results().forEach(
                call -> t.due(name + " calls " + call.group(1), true, bodies.containsKey(call.group(1)))));
    }

    private static void noCallInsideArguments() {
        t.about("rule 10: no call stands inside the arguments of another call");
        bodies.forEach((name, body) -> CALL.matcher(body).results().forEach(call -> {
            String inside = body.substring(call.end(), closing(body, call.end()));
            t.due(name + ": " + call.group(1) + "(" + inside + ")", false, CALL.matcher(inside).find());
        }));
    }

    private static int closing(String body, int from) {
        int open = 1;
        int at = from;
        while (open > 0) {
            open += body.charAt(at) == '(' ? 1 : body.charAt(at) == ')' ? -1 : 0;
            at++;
        }
        return at - 1;
    }

    /** A round of calls would let some depth grow past the number of methods there are. */
    private static void callDepth() {
        t.about("rules 8 and 10: no recursion, calls at most six deep");
        Map<String, Integer> depth = new TreeMap<>();
        bodies.keySet().forEach(name -> depth.put(name, 1));
        for (int round = 0; round <= bodies.size(); round++) {
            bodies.forEach((name, body) -> {
                for (String called : called(body)) {
                    depth.merge(name, 1 + depth.getOrDefault(called, 0), Math::max);
                }
            });
        }
        depth.forEach((name, deep) -> t.due(name + " goes " + deep + " deep", true, deep <= 6));
    }

    private static Set<String> called(String body) {
        Set<String> names = new TreeSet<>();
        CALL.matcher(body).results().forEach(call -> names.add(call.group(1)));
        return names;
    }

    private static void loopsCount() {
        t.about("rule 8: every loop counts up to a bound, and nothing else changes its counter");
        bodies.forEach((name, body) -> {
            long loops = Pattern.compile("\\b(for|while|do)\\b").matcher(body).results().count();
            t.due(name + ": loops with a counter", loops, LOOP.matcher(body).results().count());
            String rest = LOOP.matcher(body).replaceAll("");
            for (MatchResult loop : LOOP.matcher(body).results().toList()) {
                String change = "\\b" + loop.group(1) + "\\s*([-+*/%&|^]?=(?!=)|<<=|>>=|>>>=|\\+\\+|--)";
                t.due(name + ": " + loop.group(1) + " is changed", false, Pattern.compile(change).matcher(rest).find());
            }
        });
    }

    private static void sizes() {
        t.about("rule 10: few parameters, short methods");
        for (Method m : LinkStack.class.getDeclaredMethods()) {
            t.due(m + " has few parameters", true, m.getParameterCount() <= 7);
        }
        bodies.forEach((name, body) -> t.due(name + " is short", true, body.lines().count() <= 60));
    }
}
