import java.lang.reflect.InvocationTargetException;
import java.lang.reflect.Method;
import java.lang.reflect.Modifier;
import java.util.ArrayList;
import java.util.Comparator;
import java.util.List;
import java.util.Random;

/** No call ever throws, whatever it is given, in whatever state, behind the 512th call too. */
public final class WildTest {
    private static final int[] NUMBERS = {
        Integer.MIN_VALUE, Integer.MIN_VALUE + 1, -1000000, -7, -2, -1, 0, 1, 2, 3, 4, 5, 6, 7, 8, 11, 12, 13, 14, 15,
        21, 22, 31, 32, 33, 63, 64, 99, 100, 255, 399, 400, 1000, 16383, 16384, 1000000, 1000001, 0x626f756e,
        0x6e656564, 0x7320783b, Integer.MAX_VALUE - 1, Integer.MAX_VALUE};

    public static void main(String[] args) throws IllegalAccessException {
        Check check = new Check("WildTest");
        List<Method> face = new ArrayList<>();
        for (Method m : FiveTouch.class.getDeclaredMethods()) {
            if (Modifier.isPublic(m.getModifiers())) {
                face.add(m);
            }
        }
        // Reflection tells no order, and the same calls are due each time.
        face.sort(Comparator.comparing(Method::getName));
        for (int run = 0; run < 40; run++) {
            Random random = new Random(run);
            FiveTouch x = new FiveTouch();
            boolean isSmall = run % 2 == 1;
            for (int i = 0; i < 3000; i++) {
                Method m = face.get(random.nextInt(face.size()));
                Object[] values = new Object[m.getParameterCount()];
                for (int k = 0; k < values.length; k++) {
                    int number = isSmall ? random.nextInt(16) - 1 : NUMBERS[random.nextInt(NUMBERS.length)];
                    values[k] = number;
                }
                try {
                    m.invoke(x, values);
                    check.due(m.getName(), 0, 0);
                } catch (InvocationTargetException e) {
                    check.isSo(m.getName() + java.util.Arrays.toString(values) + " threw " + e.getCause(), false);
                }
            }
        }
        check.close();
    }
}
