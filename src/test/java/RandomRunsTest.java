import java.util.ArrayList;
import java.util.List;
import java.util.Random;

/** Runs of random calls, each on a new object, against the model. The seeds are fixed, so every run of the test is the same. */
public final class RandomRunsTest {
    private static final int RUNS = 1500;
    // The document speaks of 512 calls, and one step may make more than a hundred.
    private static final int CALLS = 380;

    private final Random random;
    private final VerseSetter setter = new VerseSetter();
    private final Model model = new Model();
    private final List<String> calls = new ArrayList<>();
    private boolean wrong = false;

    private RandomRunsTest(long seed) {
        random = new Random(seed);
    }

    public static void main(String[] args) {
        int wrongRuns = 0;
        for (int run = 0; run < RUNS && wrongRuns < 3; run++) {
            RandomRunsTest test = new RandomRunsTest(run);
            test.start(run % 4);
            while (test.calls.size() < CALLS && !test.wrong) {
                test.step();
            }
            wrongRuns += test.wrong ? 1 : 0;
        }
        System.out.println(RUNS + " runs, " + wrongRuns + " of them wrong");
        if (wrongRuns != 0) {
            System.exit(1);
        }
    }

    /** Compares two answers; the whole run is printed where they differ. */
    private void due(String call, long got, long want) {
        calls.add(call + " = " + got);
        if (got != want) {
            wrong = true;
            System.out.println(String.join("; ", calls) + ", due is " + want);
        }
    }

    /** A number of a range, now and then one beside it or a great one. */
    private int some(int least, int most) {
        switch (random.nextInt(60)) {
            case 0: return least - 1;
            case 1: return most + 1;
            case 2: return new int[] {Integer.MIN_VALUE, Integer.MAX_VALUE, -7, 1000}[random.nextInt(4)];
            case 3: return least;
            case 4: return most;
            default: return least + random.nextInt(most - least + 1);
        }
    }

    private int aLine() {
        return some(0, Math.max(0, model.count(7) - 1));
    }

    /** Some runs begin with a long poem, so that pages and stanzas are many; others from nothing. */
    private void start(int kind) {
        if (kind == 0) {
            return;
        }
        int lines = 4 + random.nextInt(9);
        for (int k = 0; k < lines; k++) {
            line(random.nextInt(kind + 1), random.nextInt(kind == 3 ? 6 : 3) == 0 ? 1 : 0);
            int words = random.nextInt(kind == 1 ? 3 : 7);
            for (int i = 0; i < words; i++) {
                word(1 + random.nextInt(9), random.nextInt(4));
            }
        }
    }

    private void step() {
        int kind = random.nextInt(100);
        if (kind < 22) {
            change();
        } else if (kind < 66) {
            ask();
        } else if (kind < 70) {
            typeText();
        } else if (kind < 80) {
            turnBack();
        } else {
            useSheet();
        }
    }

    private void line(int rhyme, int begins) {
        due("line(" + rhyme + ", " + begins + ")", setter.line(rhyme, begins), model.line(rhyme, begins));
    }

    private void word(int letters, int pause) {
        due("word(" + letters + ", " + pause + ")", setter.word(letters, pause), model.word(letters, pause));
    }

    private void change() {
        int a;
        int b;
        switch (random.nextInt(9)) {
            case 0: case 1:
                line(some(0, 3), some(0, 1));
                break;
            case 2: case 3: case 4:
                word(some(1, 9), some(0, 3));
                break;
            case 5:
                if (random.nextInt(3) == 0) due("drop()", setter.drop(), model.drop());
                break;
            case 6:
                a = aLine();
                b = some(0, 3);
                due("rhyme(" + a + ", " + b + ")", setter.rhyme(a, b), model.rhyme(a, b));
                break;
            default:
                a = some(0, 6);
                b = a == 0 ? some(6, 40) : a == 3 ? some(2, random.nextInt(3) == 0 ? 20 : 9) : a == 2 ? some(0, 9)
                        : a == 1 ? some(0, 4) : a == 4 ? some(1, 3) : some(0, 2);
                due("tell(" + a + ", " + b + ")", setter.tell(a, b), model.tell(a, b));
                break;
        }
    }

    private void ask() {
        int a;
        int b;
        int c;
        switch (random.nextInt(12)) {
            case 0: case 1: case 2:
                a = aLine();
                b = some(0, 7);
                due("of(" + a + ", " + b + ")", setter.of(a, b), model.of(a, b));
                break;
            case 3: case 4:
                a = aLine();
                b = some(0, 5);
                c = some(0, 3);
                due("said(" + a + ", " + b + ", " + c + ")", setter.said(a, b, c), model.said(a, b, c));
                break;
            case 5: case 6:
                a = some(0, 12);
                due("count(" + a + ")", setter.count(a), model.count(a));
                break;
            case 7: case 8:
                a = some(0, 4);
                b = some(0, 2);
                due("page(" + a + ", " + b + ")", setter.page(a, b), model.page(a, b));
                break;
            case 9: case 10:
                a = some(0, 5);
                b = some(0, 4);
                due("stanza(" + a + ", " + b + ")", setter.stanza(a, b), model.stanza(a, b));
                break;
            default:
                if (random.nextBoolean()) {
                    a = aLine();
                    due("settings(" + a + ")", setter.settings(a), model.settings(a));
                } else {
                    a = some(0, 10);
                    b = some(0, 1);
                    due("whole(" + a + ", " + b + ")", setter.whole(a, b), model.whole(a, b));
                }
                break;
        }
    }

    /** Types a text that is mostly right; a read() follows, mostly. */
    private void typeText() {
        StringBuilder text = new StringBuilder();
        int lines = random.nextInt(random.nextInt(3) == 0 ? 15 : 6);
        for (int k = 0; k < lines; k++) {
            text.append(k > 0 && random.nextInt(4) == 0 ? "|" : "").append((char) ('A' + random.nextInt(4)));
            int words = random.nextInt(random.nextInt(5) == 0 ? 8 : 4);
            for (int i = 0; i < words; i++) {
                text.append(1 + random.nextInt(9)).append(random.nextInt(3) == 0 ? ",.!".charAt(random.nextInt(3)) : "");
            }
        }
        if (random.nextInt(3) == 0) {
            text.insert(random.nextInt(text.length() + 1), "||,.!0159ADEa ~".charAt(random.nextInt(15)));
        }
        for (int blanks = random.nextInt(4); blanks > 0; blanks--) {
            text.insert(random.nextInt(text.length() + 1), ' ');
        }
        if (random.nextInt(8) == 0) {
            text.append('|');
        }
        for (char c : text.toString().toCharArray()) {
            due("type(" + (int) c + ")", setter.type(c), model.type(c));
        }
        if (random.nextInt(10) == 0) {
            int letter = some(32, 126);
            due("type(" + letter + ")", setter.type(letter), model.type(letter));
        }
        if (random.nextInt(6) != 0) {
            due("read()", setter.read(), model.read());
        }
    }

    private void turnBack() {
        int a;
        switch (random.nextInt(8)) {
            case 0: case 1: case 2:
                due("undo()", setter.undo(), model.undo());
                break;
            case 3:
                a = some(0, Integer.MAX_VALUE - 1);
                due("seed(" + a + ")", setter.seed(a), model.seed(a));
                break;
            case 4:
                due("image()", setter.image(), model.image());
                break;
            case 5:
                due("restore()", setter.restore(), model.restore());
                break;
            default:
                a = random.nextBoolean() ? some(1, 40) : some(1, 3);
                due("drift(" + a + ")", setter.drift(a), model.drift(a));
                break;
        }
    }

    private void useSheet() {
        int s = some(0, 1 + random.nextInt(3));
        int lane = some(0, random.nextInt(4));
        int i = some(0, random.nextInt(6) == 0 ? 24 : 3);
        int n = some(random.nextInt(8) == 0 ? 0 : 1, random.nextInt(6) == 0 ? 24 : 4);
        switch (random.nextInt(10)) {
            case 0:
                n = some(0, 24);
                due("sheet(" + s + ", " + lane + ", " + n + ")", setter.sheet(s, lane, n), model.sheet(s, lane, n));
                break;
            case 1:
                due("film(" + s + ", " + lane + ", " + i + ")", setter.film(s, lane, i), model.film(s, lane, i));
                break;
            case 2:
                if (random.nextInt(3) == 0) due("lift(" + s + ")", setter.lift(s), model.lift(s));
                break;
            case 3: case 4:
                int t = random.nextBoolean() ? s : some(0, 3);
                int j = some(0, 5);
                due("copy(" + s + ", " + i + ", " + t + ", " + j + ", " + n + ")", setter.copy(s, i, t, j, n), model.copy(s, i, t, j, n));
                break;
            case 5: case 6:
                long v = some(1, 12) + (random.nextInt(4) == 0 ? (1L << random.nextInt(40)) : 0);
                due("item(" + s + ", " + lane + ", " + i + ", " + v + "L)", setter.item(s, lane, i, v), model.item(s, lane, i, v));
                break;
            case 7:
                due("cuts(" + s + ", " + lane + ", " + i + ", " + n + ")", setter.cuts(s, lane, i, n), model.cuts(s, lane, i, n));
                break;
            default:
                tryDistribution(random.nextInt(4), random.nextInt(4));
                break;
        }
    }

    /** Puts numbers that add up to the number of lines on a sheet, so that cuts() gets as far as the rules of pages. */
    private void tryDistribution(int s, int lane) {
        int left = model.count(7);
        due("sheet(" + s + ", " + lane + ", 24)", setter.sheet(s, lane, 24), model.sheet(s, lane, 24));
        int first = random.nextInt(12);
        int n = 0;
        while (left > 0) {
            int size = Math.min(left, 1 + random.nextInt(5));
            int at = first + n;
            due("item(" + s + ", " + lane + ", " + at + ", " + size + "L)", setter.item(s, lane, at, size), model.item(s, lane, at, size));
            left -= size;
            n++;
        }
        due("cuts(" + s + ", " + lane + ", " + first + ", " + n + ")", setter.cuts(s, lane, first, n), model.cuts(s, lane, first, n));
    }
}
