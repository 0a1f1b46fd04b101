import java.lang.reflect.Method;
import java.lang.reflect.Modifier;
import java.util.HashMap;
import java.util.Map;

/** One call of the face, written as text: "line(3, 0, 150)". */
record Call(String text, Method method, Object[] args) {
    private static final Map<String, Method> FACE = new HashMap<>();

    static {
        for (Method m : TakenBack.class.getDeclaredMethods()) {
            if (Modifier.isPublic(m.getModifiers())) {
                FACE.put(m.getName(), m);
            }
        }
    }

    static Call of(String text) {
        int open = text.indexOf('(');
        Method method = FACE.get(text.substring(0, open));
        String inside = text.substring(open + 1, text.length() - 1);
        String[] words = inside.isEmpty() ? new String[0] : inside.split(", ");
        Class<?>[] types = method.getParameterTypes();
        Object[] args = new Object[types.length];
        for (int n = 0; n < args.length; n++) {
            args[n] = types[n] == long.class ? (Object) Long.parseLong(words[n]) : (Object) Integer.parseInt(words[n]);
        }
        return new Call(text, method, args);
    }

    long on(TakenBack x) {
        try {
            return ((Number) method.invoke(x, args)).longValue();
        } catch (ReflectiveOperationException e) {
            throw new IllegalStateException(text, e);
        }
    }
}
