/**
 * Asks an object for everything that it can answer, and writes the answers down. Two objects in the same state
 * give the same text. It changes the object, and it comes in parts, since an object may be used for 512 calls only.
 */
final class Probe {
    static final int PARTS = 15;
    private static final int FIRST_OF_SHEETS = 7;
    private static final int LINES = 12, WORDS = 6, ELEMENTS = 24;

    private final VerseSetter setter;
    private final StringBuilder answers = new StringBuilder();
    private int calls = 0;

    private Probe(VerseSetter setter) {
        this.setter = setter;
    }

    /** The answers of one part; "used" calls have been made on the object before. */
    static String look(VerseSetter setter, int part, int used) {
        Probe probe = new Probe(setter);
        probe.part(part);
        if (probe.calls + used > 512) {
            throw new IllegalStateException(probe.calls + used + " calls, part " + part);
        }
        return probe.answers.toString();
    }

    private void part(int part) {
        switch (part) {
            case 0: poem(); break;
            case 1: words(0, LINES / 2); odds(); break;
            case 2: words(LINES / 2, LINES); break;
            case 3: recorded(7); break;
            case 4: note("restore", setter.restore()); shortly(); recorded(6); break;
            case 5: turns(); break;
            case 6: tape(); break;
            default: sheet((part - FIRST_OF_SHEETS) / 2, (part - FIRST_OF_SHEETS) % 2 * ELEMENTS / 2); break;
        }
    }

    private void note(String call, long answer) {
        calls++;
        answers.append(call).append(' ').append(answer).append('\n');
    }

    private void poem() {
        counts();
        for (int k = -1; k <= LINES; k++) {
            for (int what = 0; what <= 7; what++) {
                note("of " + k + " " + what, setter.of(k, what));
            }
            note("settings " + k, setter.settings(k));
        }
        for (int p = 0; p < LINES; p++) {
            for (int what = 0; what <= 2; what++) {
                note("page " + p + " " + what, setter.page(p, what));
            }
            for (int what = 0; what <= 4; what++) {
                note("stanza " + p + " " + what, setter.stanza(p, what));
            }
        }
    }

    private void counts() {
        for (int what = 0; what <= 12; what++) {
            note("count " + what, setter.count(what));
        }
    }

    private void words(int from, int to) {
        for (int k = from; k < to; k++) {
            for (int i = 0; i < WORDS; i++) {
                for (int what = 0; what <= 3; what++) {
                    note("said " + k + " " + i + " " + what, setter.said(k, i, what));
                }
            }
        }
    }

    private void odds() {
        for (int c = 0; c <= 10; c++) {
            note("whole " + c, setter.whole(c, 0));
            note("whole " + c, setter.whole(c, 1));
        }
    }

    private void shortly() {
        counts();
        for (int k = 0; k < LINES; k++) {
            note("of " + k + " 0", setter.of(k, 0));
            note("of " + k + " 2", setter.of(k, 2));
        }
    }

    /** What is there before each of the recorded actions; the random number is put back by the next undo(). */
    private void recorded(int most) {
        for (int n = 0; n < most; n++) {
            note("undo", setter.undo());
            if (n % 2 == 0) {
                shortly();
            }
            note("seed", setter.seed(0));
        }
        note("undo", setter.undo());
    }

    private void turns() {
        note("seed", setter.seed(0));
        note("drift", setter.drift(40));
        shortly();
    }

    private void tape() {
        note("type", setter.type(' '));
        note("read", setter.read());
        shortly();
        words(0, LINES / 2);
    }

    /** An element of 1 to 12 is told by cuts(), which does not answer NOT if the poem has as many lines. */
    private void sheet(int s, int first) {
        int lane = 0;
        for (int other = 0; other <= 3; other++) {
            int answer = setter.cuts(s, other, 0, 1);
            note("cuts " + s + " " + other, answer);
            lane = answer != VerseSetter.CAST ? other : lane;
        }
        for (int n = 0; n <= ELEMENTS + 1; n++) {
            note("copy " + s + " " + n, setter.copy(s, 0, s, 0, n));
        }
        for (int k = 0; k < LINES; k++) {
            note("drop", setter.drop());
        }
        for (int k = 0; k < LINES; k++) {
            note("line", setter.line(0, 1));
            for (int i = first; i < first + ELEMENTS / 2; i++) {
                note("cuts " + s + " " + i, setter.cuts(s, lane, i, 1));
            }
        }
    }
}
