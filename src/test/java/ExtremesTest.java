import java.lang.reflect.InvocationTargetException;
import java.lang.reflect.Method;
import java.lang.reflect.Modifier;
import java.util.Arrays;
import java.util.Comparator;

/** No call throws, whatever it is given: each method with all odd numbers, on objects in several states. */
final class ExtremesTest {
    private static final int[] ODD = {Integer.MIN_VALUE, -101, -2, -1, 0, 1, 3, 12, 31, 40, 41, 128, 1000, Integer.MAX_VALUE - 9, Integer.MAX_VALUE};
    private static int calls = 0;

    public static void main(String[] args) throws IllegalAccessException {
        Method[] methods = GateFlow.class.getDeclaredMethods();
        Arrays.sort(methods, Comparator.comparing(Method::getName));
        for (int state = 0; state < 4; state++) {
            for (Method m : methods) {
                if (Modifier.isPublic(m.getModifiers())) {
                    tryAll(state, m);
                }
            }
        }
        Check.due("calls were made", calls > 10000 ? 1 : 0, 1);
        Check.end("ExtremesTest");
    }

    private static GateFlow made(int state) {
        GateFlow x = new GateFlow();
        if (state == 0) {
            return x;
        }
        for (int g = 0; g < (state == 1 ? 3 : 30); g++) {
            x.gate(g % 12, (g * 5 + 1) % 12, g % 3, 999 - g, 1 + g % 3);
        }
        x.image();
        x.list(0, 40);
        x.list(1, 0);
        x.list(2, 7);
        x.list(3, 40);
        for (int i = 0; i < 40; i++) {
            x.set(3, i, i % 2 == 0 ? Integer.MAX_VALUE : Integer.MIN_VALUE);
        }
        if (state == 3) {
            x.ends(11, 3);
            for (int i = 0; i < 90; i++) {
                x.feed("((cap>1".charAt(i % 7));
            }
        }
        return x;
    }

    private static void tryAll(int state, Method m) throws IllegalAccessException {
        int n = m.getParameterCount(), all = 1;
        for (int k = 0; k < n; k++) {
            all *= ODD.length;
        }
        // Of gate's five, every 97th is enough.
        int step = n > 3 ? 97 : 1;
        GateFlow x = made(state);
        for (int i = 0; i < all; i += step) {
            if (i / step % 100 == 99) {
                x = made(state);
            }
            Object[] given = new Object[n];
            for (int k = 0, rest = i; k < n; k++, rest /= ODD.length) {
                given[k] = ODD[rest % ODD.length];
            }
            calls++;
            try {
                m.invoke(x, given);
            } catch (InvocationTargetException e) {
                Check.due("state " + state + ": " + m.getName() + Arrays.toString(given) + " threw " + e.getCause() + ", it", 1, 0);
            }
        }
    }
}
