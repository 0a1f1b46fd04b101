import java.lang.reflect.InvocationTargetException;
import java.lang.reflect.Method;
import java.lang.reflect.Modifier;

/** No call throws: every method with numbers far and near, on an empty object and on one that is full of all. */
public final class ExtremesTest {
    private static final int[] NUMBERS = {-2147483648, -2147483647, -2000000000, -66, -3, -2, -1, 0, 1, 2, 3, 5, 6, 7, 9, 19, 24,
        59, 60, 61, 63, 64, 99, 119, 199, 200, 299, 999, 2147483646, 2147483647};

    private ExtremesTest() {
    }

    public static void main(String[] args) throws Exception {
        for (int full = 0; full < 4; full++) {
            for (Method m : TakenBack.class.getDeclaredMethods()) {
                if (Modifier.isPublic(m.getModifiers())) {
                    all(m, made(full));
                }
            }
        }
        Check.end();
    }

    private static TakenBack made(int full) {
        TakenBack x = new TakenBack();
        for (int n = 0; full > 0 && n < 64; n++) {
            int kind = n < 12 ? 1 : n % 2 == 0 ? 5 : n % 5;
            x.stone(kind, 1 + n % 9, 1 + n);
            for (int on = n - 1; on >= 0 && on > n - 5; on--) {
                x.line(n, on, 100 * (on % 3) + 99);
            }
            x.name(n, n % 20, 9);
            x.copy(n, n);
        }
        for (int p = 0; full > 0 && p < 6; p++) {
            x.row(p, p % 5, 60);
            x.put(p, 59, 77);
        }
        for (int n = 0; full > 1 && n < 64; n += full) {
            x.take(n, n % 3, 5);
            x.keep(5, n);
        }
        for (int n = 0; full > 2 && n < 45; n++) {
            x.change(n, 0, n);
        }
        for (int n = 0; full > 2 && n < 119; n++) {
            x.feed(1, "((((((1".charAt(n % 7));
        }
        return x;
    }

    private static void all(Method m, TakenBack x) throws Exception {
        Class<?>[] types = m.getParameterTypes();
        long many = 1;
        for (int n = 0; n < types.length; n++) {
            many *= NUMBERS.length;
        }
        for (long at = 0; at < many; at += types.length < 4 ? 1 : types.length < 5 ? 7 : 211) {
            Object[] args = new Object[types.length];
            long rest = at;
            StringBuilder call = new StringBuilder(m.getName());
            for (int n = 0; n < args.length; n++) {
                int v = NUMBERS[(int) (rest % NUMBERS.length)];
                rest /= NUMBERS.length;
                args[n] = types[n] == long.class ? (Object) (long) v : (Object) v;
                call.append(n == 0 ? "(" : ", ").append(v);
            }
            try {
                m.invoke(x, args);
            } catch (InvocationTargetException e) {
                Check.due("7: " + call + ") threw " + e.getCause(), 1, 0);
                return;
            }
        }
    }
}
