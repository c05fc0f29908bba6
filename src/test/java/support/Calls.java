import java.lang.reflect.InvocationTargetException;
import java.lang.reflect.Method;
import java.lang.reflect.Modifier;
import java.util.Map;
import java.util.Set;
import java.util.TreeMap;

/** Calls of the public face that are told as text. */
final class Calls {
    private final Map<String, Method> face = new TreeMap<>();

    Calls() {
        for (Method m : FiveTouch.class.getDeclaredMethods()) {
            if (Modifier.isPublic(m.getModifiers())) {
                face.put(m.getName(), m);
            }
        }
    }

    Set<String> names() {
        return face.keySet();
    }

    /** What the call answers; its numbers stand in the list with commas between them. */
    int answer(FiveTouch x, String name, String list) {
        String[] parts = list.trim().isEmpty() ? new String[0] : list.split(",");
        Object[] values = new Object[parts.length];
        for (int i = 0; i < parts.length; i++) {
            values[i] = number(parts[i]);
        }
        Method method = face.get(name);
        if (method == null || method.getParameterCount() != parts.length) {
            throw new IllegalStateException("no such call: " + name + "(" + list + ")");
        }
        try {
            return (Integer) method.invoke(x, values);
        } catch (InvocationTargetException | IllegalAccessException e) {
            throw new IllegalStateException(name + "(" + list + ") threw", e.getCause());
        }
    }

    /** Decimal, binary (0b101), hexadecimal (0x2a), MIN or MAX. */
    static int number(String told) {
        String text = told.trim();
        if (text.equals("MIN") || text.equals("MAX")) {
            return text.equals("MIN") ? Integer.MIN_VALUE : Integer.MAX_VALUE;
        }
        return text.startsWith("0b") ? Integer.parseInt(text.substring(2), 2)
            : text.startsWith("0x") ? Integer.parseUnsignedInt(text.substring(2), 16) : Integer.parseInt(text);
    }
}
