import java.lang.reflect.InvocationTargetException;
import java.lang.reflect.Method;
import java.util.ArrayList;
import java.util.List;
import java.util.Map;

/**
 * Runs texts of calls with the answers that are due, as the document writes them: "line(1, 0) = 0; count(7) = 1".
 * Each text begins with a new object. An answer may be the name of an error: "drop() = NONE".
 * {@code read "A5|B" = 2} stands for a type() of each character between the quotes, and read().
 */
final class Script {
    private static final Map<String, Long> ERRORS = Map.of("BAD", -1L, "NOT", -2L, "FULL", -3L, "NONE", -4L,
            "NULL", -11L, "CAST", -12L, "INDEX", -13L, "SIZE", -14L);

    private int calls = 0;
    private int wrong = 0;

    /** Runs a text on a new object and returns that object, for checks that a text can't tell. */
    VerseSetter run(String name, String text) {
        VerseSetter setter = new VerseSetter();
        for (String statement : statements(text)) {
            int equals = statement.lastIndexOf('=');
            if (equals < 0) {
                throw new IllegalArgumentException("no answer in: " + statement);
            }
            String call = statement.substring(0, equals).trim();
            due(name + ": " + call, answer(setter, call), value(statement.substring(equals + 1)));
        }
        return setter;
    }

    void due(String call, long got, long want) {
        calls++;
        if (got != want) {
            wrong++;
            System.out.println(call + " answered " + got + ", due is " + want);
        }
    }

    /** Ends the test, with exit code 1 if an answer was wrong. */
    void end() {
        System.out.println(calls + " answers, " + wrong + " wrong");
        if (wrong != 0 || calls == 0) {
            System.exit(1);
        }
    }

    private static List<String> statements(String text) {
        List<String> all = new ArrayList<>();
        StringBuilder statement = new StringBuilder();
        boolean quoted = false;
        for (char c : (text + ";").toCharArray()) {
            quoted ^= c == '"';
            if (quoted || c != ';' && c != '\n') {
                statement.append(c);
            } else {
                if (!statement.toString().isBlank()) {
                    all.add(statement.toString().trim());
                }
                statement.setLength(0);
            }
        }
        return all;
    }

    private static long answer(VerseSetter setter, String call) {
        if (call.startsWith("read \"")) {
            for (char c : call.substring(6, call.length() - 1).toCharArray()) {
                setter.type(c);
            }
            return setter.read();
        }
        String name = call.substring(0, call.indexOf('('));
        String inside = call.substring(call.indexOf('(') + 1, call.lastIndexOf(')')).trim();
        String[] arguments = inside.isEmpty() ? new String[0] : inside.split(",");
        for (Method method : VerseSetter.class.getMethods()) {
            if (method.getName().equals(name) && method.getParameterCount() == arguments.length) {
                return invoke(setter, method, arguments);
            }
        }
        throw new IllegalArgumentException("no such method: " + call);
    }

    private static long invoke(VerseSetter setter, Method method, String[] arguments) {
        Object[] values = new Object[arguments.length];
        for (int i = 0; i < values.length; i++) {
            long v = value(arguments[i]);
            if (method.getParameterTypes()[i] == long.class) {
                values[i] = v;
            } else {
                values[i] = Math.toIntExact(v);
            }
        }
        try {
            return ((Number) method.invoke(setter, values)).longValue();
        } catch (IllegalAccessException | InvocationTargetException e) {
            throw new IllegalStateException(method.getName() + " threw", e);
        }
    }

    private static long value(String text) {
        String t = text.trim();
        if (ERRORS.containsKey(t)) {
            return ERRORS.get(t);
        }
        if (t.equals("MAX")) {
            return Integer.MAX_VALUE;
        }
        if (t.equals("MIN")) {
            return Integer.MIN_VALUE;
        }
        return Long.parseLong(t.endsWith("L") ? t.substring(0, t.length() - 1) : t);
    }
}
