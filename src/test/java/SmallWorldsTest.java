import java.util.ArrayList;
import java.util.List;

/**
 * Every small case, against the model: every text of up to five characters, every line of up to four words, and every
 * poem of up to five lines, under settings that matter to them. Random runs may miss a case; here none of these is missed.
 */
public final class SmallWorldsTest {
    // What an object answers after more calls is free.
    private static final int CALLS_OF_AN_OBJECT = 512;
    // More than one of the cases below makes.
    private static final int CALLS_OF_A_CASE = 90;
    private static final int MOST_REPORTED = 10;

    private VerseSetter setter = new VerseSetter();
    private Model model = new Model();
    private int used = 0;
    private final List<String> calls = new ArrayList<>();
    private int cases = 0;
    private int wrong = 0;

    public static void main(String[] args) {
        SmallWorldsTest test = new SmallWorldsTest();
        test.texts("", 5);
        test.lines(new ArrayList<>(), 4);
        test.poems("", 5);
        System.out.println(test.cases + " cases, " + test.wrong + " wrong answers");
        if (test.wrong != 0) {
            System.exit(1);
        }
    }

    private void nextCase() {
        cases++;
        if (used > CALLS_OF_AN_OBJECT - CALLS_OF_A_CASE) {
            setter = new VerseSetter();
            model = new Model();
            used = 0;
            calls.clear();
        }
    }

    private void due(String call, long got, long want) {
        used++;
        calls.add(call);
        if (used > CALLS_OF_AN_OBJECT) {
            throw new IllegalStateException(used + " calls of one object");
        }
        if (got != want) {
            wrong++;
            if (wrong <= MOST_REPORTED) {
                System.out.println(String.join("; ", calls) + " answered " + got + ", due is " + want);
            }
        }
    }

    // ---- texts

    /** All texts that begin with this one and have at most so many characters more. */
    private void texts(String text, int more) {
        nextCase();
        read(text);
        for (int k = 0; k < model.count(7); k++) {
            of(k, 0);
            of(k, 1);
            of(k, 2);
            for (int i = 0; i < model.of(k, 2); i++) {
                said(k, i, 0);
                said(k, i, 1);
            }
        }
        for (char c : more == 0 ? new char[0] : "AD19,!|0 x".toCharArray()) {
            texts(text + c, more - 1);
        }
    }

    // ---- lines

    /** All lines that begin with these words (a digit and a sign each) and have at most so many words more. */
    private void lines(List<String> words, int more) {
        for (int rule = 0; rule <= 2; rule++) {
            for (int over = 0; over <= 4; over += 4) {
                for (int measure : new int[] {8, 9, 13, 14, 19}) {
                    nextCase();
                    tell(5, rule);
                    tell(2, over);
                    tell(0, measure);
                    read("B" + String.join("", words));
                    layout(words.size());
                }
            }
        }
        for (String word : more == 0 ? new String[0] : new String[] {"1", "4!", "4,", "9"}) {
            words.add(word);
            lines(words, more - 1);
            words.remove(words.size() - 1);
        }
    }

    private void layout(int words) {
        of(0, 5);
        of(0, 6);
        due("settings(0)", setter.settings(0), model.settings(0));
        for (int i = 0; i < words; i++) {
            said(0, i, 2);
            said(0, i, 3);
        }
    }

    // ---- poems

    /** All poems that begin with this text, and have at most so many lines more, of one row or of two. */
    private void poems(String text, int more) {
        for (int keep = 1; keep <= 3; keep++) {
            for (int height = 2; height <= 5; height++) {
                nextCase();
                tell(0, 20);
                tell(2, 4);
                tell(4, keep);
                tell(3, height);
                read(text);
                pages();
            }
        }
        for (String line : more == 0 ? new String[0] : new String[] {"A", "A999", "|A", "|A999"}) {
            if (!text.isEmpty() || !line.startsWith("|")) {
                poems(text + line, more - 1);
            }
        }
    }

    private void pages() {
        due("count(10)", setter.count(10), model.count(10));
        due("count(11)", setter.count(11), model.count(11));
        for (int p = 0; p <= model.count(10); p++) {
            due("page(" + p + ", 0)", setter.page(p, 0), model.page(p, 0));
            due("page(" + p + ", 1)", setter.page(p, 1), model.page(p, 1));
            due("page(" + p + ", 2)", setter.page(p, 2), model.page(p, 2));
        }
        for (int k = 0; k < model.count(7); k++) {
            of(k, 7);
        }
        due("whole(3, 0)", setter.whole(3, 0), model.whole(3, 0));
        due("whole(3, 1)", setter.whole(3, 1), model.whole(3, 1));
    }

    // ---- calls

    private void read(String text) {
        for (char c : text.toCharArray()) {
            due("type(" + (int) c + ")", setter.type(c), model.type(c));
        }
        due("read()", setter.read(), model.read());
    }

    private void tell(int what, int v) {
        due("tell(" + what + ", " + v + ")", setter.tell(what, v), model.tell(what, v));
    }

    private void of(int k, int what) {
        due("of(" + k + ", " + what + ")", setter.of(k, what), model.of(k, what));
    }

    private void said(int k, int i, int what) {
        due("said(" + k + ", " + i + ", " + what + ")", setter.said(k, i, what), model.said(k, i, what));
    }
}
