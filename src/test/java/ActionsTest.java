/** Promises 16 to 20: drift, undo, seed, image, restore. */
public final class ActionsTest {
    private static final Script SCRIPT = new Script();

    public static void main(String[] args) {
        randomNumbers();
        turns();
        turnsThatDoNothing();
        undo();
        seed();
        image();
        SCRIPT.end();
    }

    /** The random numbers, computed here without a product that could overflow: by repeated doubling modulo 2^31. */
    private static int next(int d) {
        long sum = 12345;
        long power = d;
        for (int bit = 0; bit < 31; bit++) {
            if ((1103515245L >> bit & 1) == 1) {
                sum = (sum + power) % 2147483648L;
            }
            power = power * 2 % 2147483648L;
        }
        return (int) sum;
    }

    private static void randomNumbers() {
        VerseSetter edges = new VerseSetter();
        edges.seed(0);
        edges.drift(1);
        SCRIPT.due("16 the random number after 0", edges.seed(Integer.MAX_VALUE), 12345);
        edges.drift(1);
        SCRIPT.due("16 the random number after 2147483647", edges.seed(1), 1043980748);
        edges.drift(1);
        SCRIPT.due("16 the random number after 1", edges.seed(1), 1103527590);
        int d = 1;
        VerseSetter setter = new VerseSetter();
        for (int n = 0; n < 200; n++) {
            setter.drift(1);
            d = next(d);
            SCRIPT.due("16 the random number after " + (n + 1) + " turns", setter.seed(d), d);
        }
    }

    /** Seeds whose next number begins with a given x: d / 65536 = x, found by going through small seeds. */
    private static int seedFor(int x) {
        for (int d = 0; d < 5_000_000; d++) {
            if (next(d) / 65536 == x) {
                return d;
            }
        }
        throw new IllegalStateException("no seed for " + x);
    }

    private static VerseSetter turned(VerseSetter setter, int kind, int y) {
        setter.seed(seedFor(8 * y + kind));
        setter.drift(1);
        return setter;
    }

    private static void turns() {
        for (int kind = 0; kind <= 1; kind++) {
            VerseSetter setter = new VerseSetter();
            turned(setter, kind, 3);
            SCRIPT.due("16 line(3, 0)", setter.of(0, 0), 3);
            turned(setter, kind, 4 + 2);
            SCRIPT.due("16 line(2, 1)", setter.of(1, 0), 2);
            SCRIPT.due("16 line(2, 1) begins", setter.of(1, 1), 1);
            turned(setter, kind, 8 + 1);
            SCRIPT.due("16 line(1, 0)", setter.of(2, 0), 1);
            SCRIPT.due("16 line(1, 0) begins not", setter.of(2, 1), 0);
        }
        for (int kind = 2; kind <= 4; kind++) {
            VerseSetter setter = new VerseSetter();
            setter.line(0, 0);
            turned(setter, kind, 9 * 2 + 8);
            SCRIPT.due("16 word(9, 2)", setter.said(0, 0, 0) * 10 + setter.said(0, 0, 1), 92);
            turned(setter, kind, 9 * (4 + 3));
            SCRIPT.due("16 word(1, 3)", setter.said(0, 1, 0) * 10 + setter.said(0, 1, 1), 13);
        }
        VerseSetter setter = new VerseSetter();
        setter.line(0, 0);
        setter.line(1, 0);
        turned(setter, 5, 4 * 1 + 3);
        SCRIPT.due("16 rhyme(1, 3)", setter.of(1, 0), 3);
        turned(setter, 5, 4 * 12 + 2);
        SCRIPT.due("16 rhyme(0, 2)", setter.of(0, 0), 2);
        turned(setter, 6, 3 * 7 + 2);
        SCRIPT.due("16 tell(5, 2)", setter.count(5), 2);
        turned(setter, 7, 35 * 3 + 34);
        SCRIPT.due("16 tell(0, 40)", setter.count(0), 40);
        turned(setter, 7, 35);
        SCRIPT.due("16 tell(0, 6)", setter.count(0), 6);
        SCRIPT.due("16 nothing else", setter.count(7) * 10 + setter.count(8), 21);
    }

    private static void turnsThatDoNothing() {
        VerseSetter setter = new VerseSetter();
        turned(setter, 2, 5);
        SCRIPT.due("16 no word without a line", setter.count(7), 0);
        turned(setter, 5, 1);
        turned(setter, 6, 0);
        turned(setter, 7, 14);
        SCRIPT.due("16 a turn is an action, also if nothing is done", setter.count(12), 4);
        SCRIPT.due("16 nothing was done", setter.count(5) * 100 + setter.count(0), 20);
        SCRIPT.due("16 undoing a turn that did nothing", setter.undo(), 3);
        SCRIPT.due("16 restores the random number", setter.seed(0), seedFor(8 * 14 + 7));
        SCRIPT.run("16 wrong arguments", """
            drift(0) = BAD; drift(-1) = BAD; drift(41) = BAD; drift(MIN) = BAD; drift(MAX) = BAD; count(12) = 0; seed(1) = 1
            drift(1) = 0; count(12) = 1
            """);
        manyTurns();
    }

    private static void manyTurns() {
        VerseSetter atOnce = new VerseSetter();
        VerseSetter oneByOne = new VerseSetter();
        SCRIPT.due("16 forty turns", atOnce.drift(40), 9);
        for (int turn = 0; turn < 40; turn++) {
            oneByOne.drift(1);
        }
        for (int what = 0; what <= 12; what++) {
            SCRIPT.due("16 forty turns, count " + what, atOnce.count(what), oneByOne.count(what));
        }
        for (int left = 5; left >= 0; left--) {
            SCRIPT.due("16 forty turns, undone", atOnce.undo(), left);
        }
        SCRIPT.due("16 only the latest six turns are recorded", atOnce.undo(), VerseSetter.NONE);
        SCRIPT.due("16 what is left is that of 34 turns", atOnce.seed(1), afterTurns(34));
    }

    private static void undo() {
        SCRIPT.run("17 the latest six", """
            undo() = NONE; line(0, 0) = 0; word(1, 0) = 1; word(2, 0) = 2; rhyme(0, 1) = 0; tell(0, 9) = 20; line(2, 1) = 1; drop() = 1
            count(12) = 6; undo() = 5; count(7) = 2; of(1, 0) = 2; of(1, 1) = 1; undo() = 4; count(7) = 1; undo() = 3; count(0) = 20
            undo() = 2; of(0, 0) = 0; undo() = 1; of(0, 2) = 1; undo() = 0; of(0, 2) = 0; undo() = NONE; count(7) = 1
            """);
        SCRIPT.run("17 what fails is not recorded", """
            line(0, 0) = 0; line(9, 0) = BAD; word(0, 0) = BAD; rhyme(0, 0) = NOT; tell(0, 20) = NOT; tell(9, 9) = BAD; read "x" = -20
            drift(0) = BAD; count(12) = 1; undo() = 0; count(7) = 0; drop() = NONE; word(1, 1) = NONE; count(12) = 0
            """);
        SCRIPT.run("17 new actions after undoing", """
            line(0, 0) = 0; line(1, 0) = 1; line(2, 0) = 2; undo() = 2; line(3, 0) = 2; of(2, 0) = 3; undo() = 2; undo() = 1; count(7) = 1
            undo() = 0; count(7) = 0; undo() = NONE
            """);
        SCRIPT.run("17 a dropped line comes back with its words", """
            read "A1,2.|B3!" = 2; drop() = 1; line(2, 0) = 1; word(9, 0) = 1; undo() = 3; undo() = 2; undo() = 1; count(7) = 2
            of(1, 0) = 1; of(1, 1) = 1; said(1, 0, 0) = 3; said(1, 0, 1) = 3; said(0, 1, 1) = 2
            """);
        SCRIPT.run("17 questions, sheets, type and image are no actions", """
            line(0, 0) = 0; sheet(0, 0, 2) = 2; item(0, 0, 0, 1L) = 1; film(0, 0, 0) = 1; cuts(0, 0, 0, 1) = 0; copy(0, 0, 0, 1, 1) = 1
            type(65) = 1; image() = 1; seed(4) = 1; of(0, 0) = 0; count(12) = 1; undo() = 0; lift(0) = 2; count(12) = 0
            """);
    }

    private static void seed() {
        SCRIPT.run("18", """
            seed(5) = 1; seed(0) = 5; seed(MAX) = 0; seed(-1) = BAD; seed(MIN) = BAD; seed(3) = 2147483647; count(12) = 0
            """);
        SCRIPT.run("18 a call of seed since an action is undone with it", """
            seed(5) = 1; line(0, 0) = 0; seed(6) = 5; undo() = 0; seed(7) = 5; line(0, 0) = 0; seed(8) = 7; line(0, 0) = 1; seed(9) = 8
            undo() = 1; seed(1) = 8; undo() = 0; seed(0) = 7
            """);
        SCRIPT.run("18 each turn is undone with its random number", """
            drift(2) = 0; seed(0) = 377401575; undo() = 1; seed(0) = 1103527590; undo() = 0; seed(0) = 1
            """);
    }

    private static void image() {
        SCRIPT.run("19 and 20 everything but the sheets and the tape", """
            read "A1,2" = 1; tell(0, 9) = 20; seed(5) = 1; image() = 1; line(1, 1) = 1; word(3, 3) = 1; tell(0, 10) = 9; rhyme(0, 3) = 0
            seed(6) = 5; sheet(1, 2, 3) = 3; type(68) = 1; restore() = 1; count(7) = 1; of(0, 0) = 0; said(0, 0, 1) = 1; count(0) = 9
            seed(7) = 5; count(12) = 2; lift(1) = 3; read() = 1; of(0, 0) = 3; undo() = 2; undo() = 1; count(0) = 20; undo() = 0; count(7) = 0
            """);
        SCRIPT.run("20 the image stays", """
            line(0, 0) = 0; image() = 1; drop() = 0; restore() = 1; count(7) = 1; rhyme(0, 2) = 0; drop() = 0; restore() = 1; of(0, 0) = 0
            count(12) = 1; undo() = 0; line(3, 1) = 0; line(3, 1) = 1; restore() = 1; count(7) = 1; of(0, 0) = 0; undo() = 0; count(7) = 0
            """);
        SCRIPT.run("19 in place of the previous one", """
            restore() = NONE; image() = 1; line(1, 0) = 0; image() = 1; line(2, 0) = 1; restore() = 1; count(7) = 1; undo() = 0
            count(7) = 0; restore() = 1; count(7) = 1
            """);
        SCRIPT.run("19 and 20 are no actions", "image() = 1; restore() = 1; count(12) = 0; undo() = NONE");
        allRecordedActions();
    }

    private static void allRecordedActions() {
        VerseSetter setter = new VerseSetter();
        setter.drift(10);
        setter.image();
        setter.drift(3);
        setter.undo();
        SCRIPT.due("20 restore", setter.restore(), 1);
        SCRIPT.due("20 all six recorded actions come back", setter.count(12), 6);
        for (int turns = 9; turns >= 4; turns--) {
            setter.undo();
            SCRIPT.due("20 the random number after " + turns + " turns", setter.seed(0), afterTurns(turns));
        }
        SCRIPT.due("20 no more than six", setter.undo(), VerseSetter.NONE);
    }

    private static int afterTurns(int n) {
        int d = 1;
        for (int turn = 0; turn < n; turn++) {
            d = next(d);
        }
        return d;
    }
}
