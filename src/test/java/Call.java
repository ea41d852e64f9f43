import java.lang.reflect.InvocationTargetException;
import java.lang.reflect.Method;
import java.lang.reflect.Modifier;
import java.util.HashMap;
import java.util.Map;

/** One call, written as in the document: "line(1, 0)". It can be made on the class and on the model alike. */
record Call(String name, long... arguments) {
    private static final Map<String, Long> NAMES = Map.of("BAD", -1L, "NOT", -2L, "FULL", -3L, "NONE", -4L,
            "NULL", -11L, "CAST", -12L, "INDEX", -13L, "SIZE", -14L,
            "MAX", (long) Integer.MAX_VALUE, "MIN", (long) Integer.MIN_VALUE);

    private static final Map<Class<?>, Map<String, Method>> METHODS = new HashMap<>();

    static Call parse(String text) {
        int open = text.indexOf('(');
        int close = text.lastIndexOf(')');
        if (open < 0 || close < open) {
            throw new IllegalArgumentException("no call: " + text);
        }
        String inside = text.substring(open + 1, close).trim();
        String[] parts = inside.isEmpty() ? new String[0] : inside.split(",");
        long[] arguments = new long[parts.length];
        for (int i = 0; i < parts.length; i++) {
            arguments[i] = value(parts[i]);
        }
        return new Call(text.substring(0, open).trim(), arguments);
    }

    /** A number, or the name of an error, or MAX or MIN for the greatest and the least int. */
    static long value(String text) {
        String t = text.trim();
        Long named = NAMES.get(t);
        return named != null ? named : Long.parseLong(t.endsWith("L") ? t.substring(0, t.length() - 1) : t);
    }

    long on(Object target) {
        Method method = METHODS.computeIfAbsent(target.getClass(), Call::methodsOf).get(name);
        if (method == null || method.getParameterCount() != arguments.length) {
            throw new IllegalArgumentException("no such method: " + this);
        }
        Object[] values = new Object[arguments.length];
        for (int i = 0; i < values.length; i++) {
            if (method.getParameterTypes()[i] == long.class) {
                values[i] = arguments[i];
            } else {
                values[i] = Math.toIntExact(arguments[i]);
            }
        }
        try {
            return ((Number) method.invoke(target, values)).longValue();
        } catch (IllegalAccessException | InvocationTargetException e) {
            throw new IllegalStateException(this + " threw", e);
        }
    }

    private static Map<String, Method> methodsOf(Class<?> type) {
        Map<String, Method> methods = new HashMap<>();
        for (Method method : type.getDeclaredMethods()) {
            if (!Modifier.isPrivate(method.getModifiers())) {
                methods.put(method.getName(), method);
            }
        }
        return methods;
    }

    @Override
    public String toString() {
        StringBuilder text = new StringBuilder(name).append('(');
        for (int i = 0; i < arguments.length; i++) {
            text.append(i > 0 ? ", " : "").append(arguments[i]);
        }
        return text.append(')').toString();
    }
}
