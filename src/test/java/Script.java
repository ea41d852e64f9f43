import java.util.ArrayList;
import java.util.List;

/**
 * Runs texts of calls with the answers that are due, as the document writes them: "line(1, 0) = 0; count(7) = 1".
 * Each text begins with a new object. An answer may be the name of an error: "drop() = NONE".
 * {@code type "A5" = 2} stands for a type() of each character between the quotes, and {@code read "A5|B" = 2} for
 * these and read(); {@code 3 * line(0, 0) = 2} for three calls. The answer that is given is that of the last call.
 */
final class Script {
    // What an object answers after so many calls is free.
    private static final int CALLS_OF_AN_OBJECT = 512;

    private int calls = 0;
    private int wrong = 0;

    /** Runs a text on a new object and returns that object, for checks that a text can't tell. */
    VerseSetter run(String name, String text) {
        VerseSetter setter = new VerseSetter();
        int made = 0;
        for (String statement : statements(text)) {
            int equals = statement.lastIndexOf('=');
            if (equals < 0) {
                throw new IllegalArgumentException("no answer in: " + statement);
            }
            String left = statement.substring(0, equals).trim();
            long last = 0;
            for (Call call : callsOf(left)) {
                last = call.on(setter);
                made++;
            }
            due(name + ": " + left, last, Call.value(statement.substring(equals + 1)));
        }
        if (made > CALLS_OF_AN_OBJECT) {
            throw new IllegalArgumentException(made + " calls of one object: " + name);
        }
        return setter;
    }

    /** Makes the calls of a text on an object, whatever they answer. */
    static int make(String text, Object target) {
        int made = 0;
        for (String statement : statements(text)) {
            for (Call call : callsOf(statement)) {
                call.on(target);
                made++;
            }
        }
        return made;
    }

    void due(String call, long got, long want) {
        calls++;
        if (got != want) {
            wrong++;
            System.out.println(call + " answered " + got + ", due is " + want);
        }
    }

    /** Ends the test, with exit code 1 if an answer was wrong. */
    void end() {
        System.out.println(calls + " answers, " + wrong + " wrong");
        if (wrong != 0 || calls == 0) {
            System.exit(1);
        }
    }

    private static List<String> statements(String text) {
        List<String> all = new ArrayList<>();
        StringBuilder statement = new StringBuilder();
        boolean quoted = false;
        for (char c : (text + ";").toCharArray()) {
            quoted ^= c == '"';
            if (quoted || c != ';' && c != '\n') {
                statement.append(c);
            } else {
                if (!statement.toString().isBlank()) {
                    all.add(statement.toString().trim());
                }
                statement.setLength(0);
            }
        }
        return all;
    }

    static List<Call> callsOf(String text) {
        List<Call> all = new ArrayList<>();
        if (text.startsWith("read \"") || text.startsWith("type \"")) {
            for (char c : text.substring(6, text.length() - 1).toCharArray()) {
                all.add(new Call("type", c));
            }
            if (text.startsWith("read")) {
                all.add(new Call("read"));
            }
            return all;
        }
        int star = text.indexOf(" * ");
        int times = star < 0 ? 1 : Integer.parseInt(text.substring(0, star).trim());
        for (int n = 0; n < times; n++) {
            all.add(Call.parse(star < 0 ? text : text.substring(star + 3)));
        }
        return all;
    }
}
