/** The boundaries that "Undo" and promises 16 to 20 name, and how long an object may be used. */
final class ActionBoundaries {
    private final Boundary boundary;

    ActionBoundaries(Boundary boundary) {
        this.boundary = boundary;
    }

    void all() {
        life();
        recording();
        undoing();
        drift();
        turns();
        turnsWithoutEffect();
        undo();
        seed();
        image();
        restore();
    }

    private void life() {
        boundary.holds("What it is", "An object is used for at most 512 calls after it has been made",
            "505 * seed(7) = 7; 6 * line(0, 0) = 5; of(5, 0) = 0", "511 * drift(40) = 12; count(12) = 6", "511 * sheet(3, 3, 24) = 24; lift(3) = 24",
            "511 * image() = 1; restore() = 1", "511 * read() = 0; count(12) = 6", "90 * type(32) = 90; 421 * type(65) = FULL; read() = 0");
    }

    private void recording() {
        boundary.holds("Undo", "Successful calls of line(), word(), drop(), rhyme(), tell() and read(), and each turn of drift(), are actions", """
            line(0, 0) = 0; count(12) = 1; word(1, 0) = 1; count(12) = 2; rhyme(0, 1) = 0; count(12) = 3; tell(0, 9) = 20; count(12) = 4; drop() = 0
            count(12) = 5; read() = 0; count(12) = 6
            """, """
            drift(1) = 0; count(12) = 1; drift(2) = 1; count(12) = 3; drift(3) = 1; count(12) = 6
            """, """
            line(4, 0) = BAD; word(1, 0) = NONE; word(0, 0) = BAD; drop() = NONE; rhyme(0, 0) = BAD; tell(0, 20) = NOT; tell(0, 41) = BAD; read "x" = -20
            drift(0) = BAD; drift(41) = BAD; undo() = NONE; restore() = NONE; count(12) = 0
            """, """
            line(1, 0) = 0; 6 * word(1, 0) = 6; drop() = 0; undo() = 5; undo() = 4; undo() = 3; word(2, 0) = 5; word(2, 0) = 6; count(12) = 5
            word(1, 0) = FULL; rhyme(0, 1) = NOT; count(12) = 5
            """, """
            seed(3) = 1; image() = 1; restore() = 1; type(65) = 1; sheet(0, 0, 3) = 3; item(0, 0, 0, 1L) = 1; film(0, 0, 0) = 0; copy(0, 0, 0, 1, 1) = 1
            cuts(0, 0, 0, 1) = NOT; lift(0) = 3; count(7) = 0; whole(0, 0) = 1; count(12) = 0; undo() = NONE
            """);
        boundary.holds("Undo", "the latest 6 are recorded", """
            5 * line(0, 0) = 4; count(12) = 5; line(0, 0) = 5; count(12) = 6; line(0, 0) = 6; count(12) = 6; undo() = 5; 5 * undo() = 0; count(7) = 1
            undo() = NONE; count(7) = 1
            """, """
            6 * line(0, 0) = 5; 6 * undo() = 0; count(7) = 0; undo() = NONE; line(3, 0) = 0; undo() = 0; count(7) = 0
            """, """
            12 * line(1, 0) = 11; drop() = 11; undo() = 5; 5 * undo() = 0; count(7) = 7; undo() = NONE; count(7) = 7
            """, """
            drift(6) = 1; 6 * undo() = 0; seed(0) = 1; count(7) = 0; undo() = NONE
            """, """
            drift(7) = 1; 6 * undo() = 0; undo() = NONE; seed(0) = 1103527590
            """);
    }

    private void undoing() {
        boundary.holds("Undo", "To undo the last recorded one restores the lines, the settings and the random number as they were directly before it", """
            read "A1|B2!" = 2; read() = 0; undo() = 1; count(7) = 2; count(8) = 2; said(1, 0, 0) = 2; said(1, 0, 1) = 3; of(0, 2) = 1
            """, """
            tell(0, 6) = 20; tell(6, 0) = 1; undo() = 1; count(6) = 1; count(0) = 6; undo() = 0; count(0) = 20
            """, """
            line(1, 1) = 0; rhyme(0, 2) = 1; word(9, 3) = 1; drop() = 0; undo() = 3; of(0, 0) = 2; said(0, 0, 0) = 9; undo() = 2; of(0, 2) = 0; undo() = 1
            of(0, 0) = 1; undo() = 0; of(0, 0) = BAD
            """, """
            12 * line(0, 0) = 11; 6 * word(1, 0) = 6; read() = 0; undo() = 5; count(7) = 12; of(11, 2) = 6; line(0, 0) = FULL; word(1, 0) = FULL
            """);
        boundary.holds("Undo", "(so a call of seed() since then is undone, too)", """
            seed(8) = 1; line(0, 0) = 0; seed(9) = 8; seed(10) = 9; undo() = 0; seed(11) = 8
            """, """
            line(0, 0) = 0; seed(0) = 1; line(0, 0) = 1; seed(MAX) = 0; undo() = 1; seed(5) = 0; undo() = 0; seed(6) = 1; undo() = NONE; seed(7) = 6
            """);
    }

    private void drift() {
        boundary.holds("Promise 16", "`n`: 1 to 40", """
            drift(0) = BAD; drift(1) = 0; count(12) = 1; drift(41) = BAD; drift(40) = 9; seed(1) = 893145566
            """);
        boundary.holds("Promise 16", "Returns the number of lines then; BAD if n is out of range.", """
            drift(-1) = BAD; drift(MIN) = BAD; drift(MAX) = BAD; drift(41) = BAD; drift(0) = BAD; count(12) = 0; seed(1) = 1; drift(3) = 1; count(7) = 1
            """, """
            12 * line(0, 0) = 11; drift(40) = 12; count(7) = 12
            """);
        // The least, the greatest and two more numbers; their successors were computed apart from the class.
        boundary.holds("Promise 16", "the random number d is replaced by the lowest 31 bits of d * 1103515245 + 12345 (computed without overflow)", """
            seed(0) = 1; drift(1) = 1; seed(MAX) = 12345; drift(1) = 2; seed(1) = 1043980748; drift(1) = 2; seed(1073741824) = 1103527590
            drift(1) = 3; seed(0) = 1073754169
            """);
    }

    /** The seed whose next number is this one: the factor is odd, so each bit of a seed is known from the bits below it. */
    private static int before(int number) {
        long seed = 0;
        for (int bit = 0; bit < 31; bit++) {
            long differs = (seed * 1103515245L + 12345L ^ number) >> bit & 1;
            seed |= differs << bit;
        }
        return (int) seed;
    }

    /** A seed whose next number has the x of a turn, x % 8 being its kind and x / 8 the y. */
    private static int seedFor(int kind, int y) {
        return before((8 * y + kind) * 65536);
    }

    /** A text with one turn; the answers to seed() before it and to drift() are given. */
    private static String turn(int kind, int y, int random, int lines) {
        return "; seed(" + seedFor(kind, y) + ") = " + random + "; drift(1) = " + lines + "; ";
    }

    private void turns() {
        boundary.holds("Promise 16", "Let x be d / 65536, and y be x / 8 (integer divisions).", "seed(" + before(65535) + ") = 1; drift(1) = 1; of(0, 0) = 0",
            "seed(" + before(65536) + ") = 1; drift(1) = 1; of(0, 0) = 0", "seed(" + before(2147483647) + ") = 1; drift(1) = 0; count(0) = 6",
            "seed(" + before(7 * 65536 - 1) + ") = 1; drift(1) = 0; count(0) = 20; count(5) = 0", "seed(" + before(7 * 65536) + ") = 1; drift(1) = 0; count(0) = 6",
            "seed(" + before(8 * 65536 - 1) + ") = 1; drift(1) = 0; count(0) = 6", "seed(" + before(8 * 65536) + ") = 1; drift(1) = 1; of(0, 0) = 1");
        boundary.holds("Promise 16", "for 0 and 1, line(y % 4, y / 4 % 2)",
            turn(0, 0, 1, 1) + "of(0, 0) = 0", turn(1, 4095, 1, 1) + "of(0, 0) = 3; of(0, 1) = 1", "line(0, 0) = 0" + turn(0, 3, 1, 2) + "of(1, 0) = 3; of(1, 1) = 0",
            "line(0, 0) = 0" + turn(1, 4, 1, 2) + "of(1, 0) = 0; of(1, 1) = 1", "line(0, 0) = 0" + turn(1, 8, 1, 2) + "of(1, 0) = 0; of(1, 1) = 0");
        boundary.holds("Promise 16", "for 2, 3 and 4, word(y % 9 + 1, y / 9 % 4)",
            "line(0, 0) = 0" + turn(2, 0, 1, 1) + "said(0, 0, 0) = 1; said(0, 0, 1) = 0", "line(0, 0) = 0" + turn(3, 8, 1, 1) + "said(0, 0, 0) = 9; said(0, 0, 1) = 0",
            "line(0, 0) = 0" + turn(4, 35, 1, 1) + "said(0, 0, 0) = 9; said(0, 0, 1) = 3", "line(0, 0) = 0" + turn(4, 36, 1, 1) + "said(0, 0, 0) = 1; said(0, 0, 1) = 0");
        boundary.holds("Promise 16", "for 5, rhyme(y / 4 % 12, y % 4)",
            "line(1, 0) = 0" + turn(5, 0, 1, 1) + "of(0, 0) = 0", "line(1, 0) = 0" + turn(5, 51, 1, 1) + "of(0, 0) = 3",
            "12 * line(0, 0) = 11" + turn(5, 47, 1, 12) + "of(11, 0) = 3; of(10, 0) = 0; of(0, 0) = 0");
        boundary.holds("Promise 16", "for 6, tell(5, y % 3)", turn(6, 1, 1, 0) + "count(5) = 1", turn(6, 2, 1, 0) + "count(5) = 2",
            "tell(5, 2) = 0" + turn(6, 3, 1, 0) + "count(5) = 0", turn(6, 4094, 1, 0) + "count(5) = 2");
        boundary.holds("Promise 16", "for 7, tell(0, y % 35 + 6)", turn(7, 0, 1, 0) + "count(0) = 6", turn(7, 34, 1, 0) + "count(0) = 40", turn(7, 35, 1, 0) + "count(0) = 6",
            turn(7, 4095, 1, 0) + "count(0) = 6");
    }

    private void turnsWithoutEffect() {
        String full = "12 * line(0, 0) = 11";
        String wide = "line(0, 0) = 0; 6 * word(5, 0) = 6";
        boundary.holds("Promise 16", "If that call would return an error, nothing is done.",
            full + turn(0, 7, 1, 12) + "count(7) = 12; of(11, 0) = 0; of(11, 1) = 0", full + turn(1, 7, 1, 12) + "count(7) = 12; of(11, 0) = 0",
            turn(2, 0, 1, 0) + "count(7) = 0", turn(3, 0, 1, 0) + "count(7) = 0", turn(4, 0, 1, 0) + "count(7) = 0",
            wide + turn(2, 0, 1, 1) + "of(0, 2) = 6; said(0, 5, 0) = 5", wide + turn(4, 0, 1, 1) + "of(0, 2) = 6",
            turn(5, 0, 1, 0) + "count(7) = 0", "line(2, 0) = 0" + turn(5, 4, 1, 1) + "of(0, 0) = 2", "line(2, 0) = 0" + turn(5, 2, 1, 1) + "of(0, 0) = 2",
            turn(6, 0, 1, 0) + "count(5) = 0", turn(7, 14, 1, 0) + "count(0) = 20");
        boundary.holds("Promise 16", "Each turn is one action, also if nothing is done (the call in it is not recorded separately).",
            turn(2, 0, 1, 0) + "count(12) = 1; undo() = 0; seed(0) = " + seedFor(2, 0), turn(0, 0, 1, 1) + "count(12) = 1; undo() = 0; count(7) = 0; undo() = NONE",
            turn(6, 1, 1, 0) + "count(12) = 1; undo() = 0; count(5) = 0; seed(0) = " + seedFor(6, 1), turn(7, 14, 1, 0) + "count(12) = 1",
            "drift(6) = 1; count(12) = 6; drift(1) = 1; count(12) = 6", full + "; drift(40) = 12; count(12) = 6; 6 * undo() = 0; count(7) = 12; undo() = NONE");
    }

    private void undo() {
        boundary.holds("Promise 17", "Undoes the last recorded action, which is not recorded any more.", """
            line(0, 0) = 0; line(1, 0) = 1; undo() = 1; count(12) = 1; count(7) = 1; undo() = 0; count(12) = 0; undo() = NONE; line(2, 0) = 0
            undo() = 0; count(7) = 0
            """, """
            7 * line(0, 0) = 6; 3 * undo() = 3; line(1, 0) = 4; tell(0, 9) = 20; drop() = 4; count(12) = 6; word(1, 0) = 1; count(12) = 6; 6 * undo() = 0
            undo() = NONE; count(7) = 2
            """);
        boundary.holds("Promise 17", "Returns the number of actions that are still recorded; NONE if none is recorded.", """
            undo() = NONE; line(0, 0) = 0; undo() = 0; undo() = NONE; 8 * line(0, 0) = 7; undo() = 5; undo() = 4; undo() = 3; undo() = 2; undo() = 1; undo() = 0
            undo() = NONE; undo() = NONE; count(7) = 2
            """);
    }

    private void seed() {
        boundary.holds("Promise 18", "`v`: 0 to 2147483647", """
            seed(-1) = BAD; seed(0) = 1; seed(MAX) = 0; seed(MIN) = BAD; seed(1) = 2147483647
            """);
        boundary.holds("Promise 18", "Returns the previous random number; BAD if v is negative.", """
            seed(0) = 1; seed(0) = 0; seed(-1) = BAD; seed(5) = 0; seed(MIN) = BAD; seed(MAX) = 5; drift(1) = 1; seed(1) = 1043980748
            """);
    }

    private void image() {
        boundary.holds("Promise 19", "Saves everything except the sheets and the tape as the image", """
            sheet(0, 0, 3) = 3; type(65) = 1; image() = 1; sheet(0, 1, 4) = 4; sheet(1, 1, 5) = 5; type(66) = 2; restore() = 1; lift(0) = 4; lift(1) = 5
            type(67) = 3; read() = 3
            """, """
            image() = 1; 12 * line(0, 0) = 11; 6 * word(1, 0) = 6; restore() = 1; count(7) = 0; count(12) = 0; undo() = NONE; word(1, 0) = NONE
            """);
        boundary.holds("Promise 19", "in place of the previous one", """
            line(0, 0) = 0; image() = 1; line(0, 0) = 1; image() = 1; line(0, 0) = 2; restore() = 1; count(7) = 2; count(12) = 2; undo() = 1; count(7) = 1
            restore() = 1; count(7) = 2
            """, """
            7 * line(0, 0) = 6; image() = 1; read() = 0; 6 * undo() = 0; image() = 1; restore() = 1; count(12) = 0; undo() = NONE; count(7) = 2
            """);
        boundary.holds("Promise 19", "lines, settings, the random number, and the recorded actions.", """
            read "A1|B2!" = 2; tell(0, 6) = 20; tell(6, 0) = 1; seed(MAX) = 1; image() = 1; read "C" = 1; tell(0, 40) = 6; tell(6, 2) = 0; seed(0) = 2147483647
            4 * word(1, 0) = 4; restore() = 1; count(7) = 2; said(1, 0, 1) = 3; count(0) = 6; count(6) = 0; seed(3) = 2147483647; count(12) = 3
            undo() = 2; count(6) = 1; undo() = 1; count(0) = 20; undo() = 0; count(7) = 0; undo() = NONE
            """, """
            10 * line(0, 0) = 9; image() = 1; 6 * undo() = 0; restore() = 1; count(12) = 6; count(7) = 10; 6 * undo() = 0; count(7) = 4; undo() = NONE
            """);
    }

    private void restore() {
        boundary.holds("Promise 20", "Restores what the image holds; the image stays.", """
            line(2, 0) = 0; image() = 1; drop() = 0; restore() = 1; of(0, 0) = 2; rhyme(0, 3) = 2; restore() = 1; of(0, 0) = 2; undo() = 0; restore() = 1
            of(0, 0) = 2; count(12) = 1
            """);
        boundary.holds("Promise 20", "Returns 1; NONE if there is no image.", """
            restore() = NONE; line(0, 0) = 0; restore() = NONE; undo() = 0; restore() = NONE; image() = 1; restore() = 1; restore() = 1
            """);
    }
}
