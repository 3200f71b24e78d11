import java.lang.reflect.Field;
import java.lang.reflect.Method;

/** Looks at what the class keeps to itself. It names private members, and must follow if they are renamed. */
final class Inside {
    private Inside() {
    }

    static Field field(String name) throws ReflectiveOperationException {
        Field field = LinkStack.class.getDeclaredField(name);
        field.setAccessible(true);
        return field;
    }

    static Method method(String name, Class<?>... parameters) throws ReflectiveOperationException {
        Method method = LinkStack.class.getDeclaredMethod(name, parameters);
        method.setAccessible(true);
        return method;
    }

    static int[] ints(LinkStack x, String name) throws ReflectiveOperationException {
        return (int[]) field(name).get(x);
    }

    static int constant(String name) throws ReflectiveOperationException {
        return field(name).getInt(null);
    }

    static int sent(LinkStack x, int e) throws ReflectiveOperationException {
        return ints(x, "piecesSent")[e];
    }

    static int orders(LinkStack x, int e) throws ReflectiveOperationException {
        return ints(x, "orderCount")[e];
    }

    static int underWay(LinkStack x) throws ReflectiveOperationException {
        int count = 0;
        for (int length : ints(x, "pieceLength")) {
            count += length > 0 ? 1 : 0;
        }
        return count;
    }
}
