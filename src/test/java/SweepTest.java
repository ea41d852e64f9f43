import java.util.ArrayList;
import java.util.List;
import java.util.Set;

/**
 * In each of some states, every method with every choice of arguments at and beside its boundaries, against the
 * model. Where the call is refused, the object must answer as one that was never called so.
 */
public final class SweepTest {
    private static final long MIN = Integer.MIN_VALUE, MAX = Integer.MAX_VALUE;
    private static final long[] LINE = {MIN, -1, 0, 1, 2, 3, 4, 11, 12, MAX};
    private static final long[] SHEET = {MIN, -1, 0, 1, 2, 3, 4, MAX};
    private static final long[] INDEX = {MIN, -1, 0, 1, 2, 3, 12, 23, 24, 25, MAX};
    private static final long[] VALUE = {Long.MIN_VALUE, -1, 0, 1, 12, 13, 257, 65537, 4294967297L, Long.MAX_VALUE};

    /** Calls after which the object is as before, whatever they answer. */
    private static final Set<String> QUESTIONS = Set.of("of", "said", "count", "page", "stanza", "settings", "whole", "cuts");
    // An object may be used for 512 calls: its past, these, and all that Probe asks.
    private static final int REFUSED_AT_ONCE = 60;

    private final String past;
    private final List<Call> refused = new ArrayList<>();
    private VerseSetter setter;
    private Model model;
    private int used;
    private int calls = 0;
    private int wrong = 0;

    private SweepTest(String past) {
        this.past = past;
        renew();
    }

    public static void main(String[] args) {
        List<Call> all = everyCall();
        int calls = 0;
        int wrong = 0;
        for (String past : States.ALL) {
            SweepTest test = new SweepTest(past);
            all.forEach(test::compare);
            test.compareTwins();
            calls += test.calls;
            wrong += test.wrong;
        }
        System.out.println(calls + " calls, " + wrong + " wrong");
        if (wrong != 0) {
            System.exit(1);
        }
    }

    private void renew() {
        setter = new VerseSetter();
        model = new Model();
        used = Script.make(past, setter);
        Script.make(past, model);
    }

    private void compare(Call call) {
        calls++;
        used++;
        long got = call.on(setter);
        long due = call.on(model);
        if (got != due) {
            report(call + " answered " + got + ", due is " + due);
        }
        boolean isRefused = due < 0 && !call.name().equals("read");
        if (isRefused) {
            refused.add(call);
            if (refused.size() == REFUSED_AT_ONCE) {
                compareTwins();
            }
        }
        if (!isRefused && !QUESTIONS.contains(call.name()) || used == 500) {
            renew();
        }
    }

    private void compareTwins() {
        int part = Twins.differ(past, refused);
        if (part >= 0) {
            report("part " + part + " of the answers differs after " + refused);
        }
        refused.clear();
    }

    private void report(String what) {
        wrong++;
        if (wrong < 10) {
            System.out.println("after " + past + ": " + what);
        }
    }

    private static long[] from(int least, int most) {
        long[] all = new long[most - least + 3];
        all[0] = MIN;
        all[1] = MAX;
        for (int i = 2; i < all.length; i++) {
            all[i] = least + i - 2;
        }
        return all;
    }

    private static List<Call> everyCall() {
        List<Call> all = new ArrayList<>();
        add(all, "line", from(-1, 4), from(-1, 2));
        add(all, "word", from(-1, 10), from(-1, 4));
        add(all, "drop");
        add(all, "rhyme", LINE, from(-1, 4));
        add(all, "tell", from(-1, 7), from(-1, 41));
        add(all, "of", LINE, from(-1, 8));
        add(all, "said", LINE, from(-1, 6), from(-1, 4));
        add(all, "count", from(-1, 13));
        add(all, "page", LINE, from(-1, 3));
        add(all, "stanza", LINE, from(-1, 5));
        add(all, "settings", LINE);
        add(all, "whole", from(-1, 11), from(-1, 2));
        add(all, "type", from(-1, 128));
        add(all, "read");
        add(all, "drift", from(-1, 41));
        add(all, "undo");
        add(all, "seed", from(-1, 1));
        add(all, "image");
        add(all, "restore");
        add(all, "cuts", SHEET, SHEET, INDEX, from(-1, 13));
        add(all, "film", SHEET, SHEET, INDEX);
        add(all, "sheet", SHEET, SHEET, from(-1, 25));
        add(all, "lift", SHEET);
        add(all, "item", SHEET, SHEET, INDEX, VALUE);
        add(all, "copy", from(-1, 4), INDEX, from(-1, 4), INDEX, INDEX);
        return all;
    }

    private static void add(List<Call> all, String name, long[]... choices) {
        int number = 1;
        for (long[] choice : choices) {
            number *= choice.length;
        }
        for (int n = 0; n < number; n++) {
            long[] arguments = new long[choices.length];
            int rest = n;
            for (int i = 0; i < choices.length; i++) {
                arguments[i] = choices[i][rest % choices[i].length];
                rest /= choices[i].length;
            }
            all.add(new Call(name, arguments));
        }
    }
}
