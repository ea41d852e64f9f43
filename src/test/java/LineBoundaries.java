/** The boundaries that "Lines and words" and promises 1 to 6 name. */
final class LineBoundaries {
    private final Boundary boundary;

    LineBoundaries(Boundary boundary) {
        this.boundary = boundary;
    }

    void all() {
        lines();
        words();
        stanzas();
        settings();
        indentations();
        newObject();
        line();
        word();
        drop();
        rhyme();
        tell();
    }

    private void lines() {
        boundary.holds("Lines and words", "There are at most 12 lines, numbered from 0", """
            line(0, 0) = 0; of(0, 0) = 0; of(-1, 0) = BAD; of(1, 0) = BAD; 10 * line(1, 0) = 10; of(11, 0) = BAD; line(3, 0) = 11
            line(2, 0) = FULL; count(7) = 12; of(11, 0) = 3; of(12, 0) = BAD
            """, """
            read "ABCDABCDABCD" = 12; of(11, 0) = 3; of(12, 0) = BAD; read "ABCDABCDABCDA" = -32; count(7) = 12; line(0, 0) = FULL
            drop() = 11; line(0, 0) = 11; line(0, 0) = FULL
            """, """
            60 * drift(40) = 12; count(7) = 12; of(11, 8) = BAD; of(12, 0) = BAD; line(0, 0) = FULL
            """);
        boundary.holds("Lines and words", "at first there are none", """
            count(7) = 0; of(0, 0) = BAD; said(0, 0, 0) = BAD; settings(0) = BAD; rhyme(0, 1) = BAD; drop() = NONE
            """);
        boundary.holds("Lines and words", "A line has a rhyme from 0 to 3", """
            line(0, 0) = 0; line(3, 0) = 1; line(-1, 0) = BAD; line(4, 0) = BAD; of(0, 0) = 0; of(1, 0) = 3; rhyme(0, 3) = 0
            rhyme(0, 4) = BAD; rhyme(1, -1) = BAD; rhyme(1, 0) = 3; of(0, 0) = 3; of(1, 0) = 0; count(7) = 2
            """);
    }

    private void words() {
        boundary.holds("Lines and words", "a sequence of at most 6 words", """
            line(0, 0) = 0; of(0, 2) = 0; said(0, 0, 0) = BAD; 5 * word(1, 0) = 5; said(0, 5, 0) = BAD; word(9, 0) = 6; word(2, 0) = FULL
            of(0, 2) = 6; said(0, 5, 0) = 9; said(0, 6, 0) = BAD; said(0, -1, 0) = BAD
            line(1, 0) = 1; of(1, 2) = 0; 6 * word(1, 0) = 6; word(1, 0) = FULL; of(0, 2) = 6; said(0, 0, 0) = 1
            """, """
            read "A999999" = 1; word(1, 0) = FULL; read "A9999999" = -27; read "A99999" = 1; word(1, 0) = 6; word(1, 0) = FULL
            """);
        boundary.holds("Lines and words", "A word has 1 to 9 letters", """
            line(0, 0) = 0; word(1, 0) = 1; word(9, 0) = 2; word(0, 0) = BAD; word(10, 0) = BAD; of(0, 2) = 2
            said(0, 0, 0) = 1; said(0, 1, 0) = 9; said(0, 0, 1) = 0; said(0, 1, 1) = 0
            """);
        boundary.holds("Lines and words", "and a pause from 0 to 3 after it", """
            line(0, 0) = 0; word(1, 0) = 1; word(1, 3) = 2; word(1, -1) = BAD; word(1, 4) = BAD; of(0, 2) = 2
            said(0, 0, 1) = 0; said(0, 1, 1) = 3; said(0, 0, 0) = 1; said(0, 1, 0) = 1
            """, """
            line(0, 0) = 0; word(9, 0) = 1; word(9, 3) = 2; said(0, 0, 1) = 0; said(0, 1, 1) = 3; said(0, 0, 0) = 9; said(0, 1, 0) = 9
            """);
    }

    private void stanzas() {
        boundary.holds("Lines and words", "A line may begin a stanza; line 0 always does.", """
            line(0, 0) = 0; of(0, 1) = 1; line(0, 0) = 1; of(1, 1) = 0; line(0, 1) = 2; of(2, 1) = 1; count(8) = 2
            """, """
            line(0, 1) = 0; of(0, 1) = 1; count(8) = 1; drop() = 0; line(1, 0) = 0; of(0, 1) = 1; count(8) = 1
            """, """
            read "AA" = 2; of(0, 1) = 1; of(1, 1) = 0; read "A|A" = 2; drop() = 1; drop() = 0; line(0, 0) = 0; line(0, 0) = 1
            of(0, 1) = 1; of(1, 1) = 0
            """);
        boundary.holds("Lines and words", "The stanzas, numbered from 0, consist of the lines from one that begins a stanza to the one "
            + "before the next such line.", """
            count(8) = 0; stanza(0, 0) = BAD; line(0, 0) = 0; count(8) = 1; stanza(0, 0) = 0; stanza(0, 1) = 1; stanza(1, 0) = BAD; of(0, 3) = 0
            """, """
            read "AAAAAAAAAAAA" = 12; count(8) = 1; stanza(0, 0) = 0; stanza(0, 1) = 12; stanza(1, 0) = BAD; of(0, 3) = 0; of(11, 3) = 0
            """, """
            read "A|A|A|A|A|A|A|A|A|A|A|A" = 12; count(8) = 12; stanza(0, 1) = 1; stanza(11, 0) = 11; stanza(11, 1) = 1; stanza(12, 0) = BAD
            of(0, 3) = 0; of(11, 3) = 11; of(10, 3) = 10
            """, """
            read "AAA|B|CC" = 6; stanza(0, 1) = 3; stanza(1, 0) = 3; stanza(1, 1) = 1; stanza(2, 0) = 4; stanza(2, 1) = 2
            of(2, 3) = 0; of(3, 3) = 1; of(4, 3) = 2; of(5, 3) = 2; line(0, 0) = 6; stanza(2, 1) = 3; line(0, 1) = 7; stanza(2, 1) = 3
            """);
    }

    private void settings() {
        boundary.holds("Lines and words", "There are seven settings, numbered 0 to 6", """
            tell(-1, 6) = BAD; tell(0, 6) = 20; tell(6, 0) = 1; tell(7, 0) = BAD; tell(7, 1) = BAD; tell(MIN, 1) = BAD; tell(MAX, 1) = BAD
            count(12) = 2; count(-1) = BAD
            """);
        setting(0, "0 MEASURE, 6 to 40 (20 at first)", 6, 40, 20);
        setting(1, "1 STEP, 0 to 4 (2 at first)", 0, 4, 2);
        setting(2, "2 OVER, 0 to 9 (4 at first)", 0, 9, 4);
        setting(3, "3 HEIGHT, 2 to 20 (8 at first)", 2, 20, 8);
        setting(4, "4 KEEP, 1 to 3 (2 at first)", 1, 3, 2);
        setting(5, "5 RULE, 0 to 2 (0 at first)", 0, 2, 0);
        setting(6, "6 SCHEME, 0 to 2 (1 at first)", 0, 2, 1);
    }

    private void setting(int what, String sentence, int least, int most, int atFirst) {
        String text = "count(#) = FIRST; tell(#, BELOW) = BAD; tell(#, ABOVE) = BAD; tell(#, MIN) = BAD; tell(#, MAX) = BAD; count(#) = FIRST\n"
            + "count(12) = 0; tell(#, FIRST) = NOT; tell(#, MOST) = FIRST; count(#) = MOST; tell(#, ABOVE) = BAD; tell(#, BELOW) = BAD\n";
        // RULE is least at first, so the way there leads over the greatest value.
        boundary.holds("Lines and words", sentence, (text + "count(#) = MOST; tell(#, LEAST) = MOST; tell(#, BELOW) = BAD; count(#) = LEAST\n"
            + "tell(#, LEAST) = NOT; count(12) = 2; undo() = 1; undo() = 0; count(#) = FIRST").replace("#", "" + what)
            .replace("FIRST", "" + atFirst).replace("BELOW", "" + (least - 1)).replace("ABOVE", "" + (most + 1))
            .replace("LEAST", "" + least).replace("MOST", "" + most));
    }

    private void indentations() {
        boundary.holds("Lines and words", "The rank of a line is the number of different rhymes that occur in its stanza before the first "
            + "line with its own rhyme.", """
            tell(1, 1) = 2; read "AAABBABACADA" = 12; of(0, 4) = 0; of(1, 4) = 0; of(2, 4) = 0; of(3, 4) = 1; of(4, 4) = 1
            of(5, 4) = 0; of(6, 4) = 1; of(8, 4) = 2; of(9, 4) = 0; of(10, 4) = 3; of(11, 4) = 0
            """, """
            tell(1, 1) = 2; read "DCBA|A|BADC|CC" = 11; of(0, 4) = 0; of(1, 4) = 1; of(2, 4) = 2; of(3, 4) = 3; of(4, 4) = 0; of(5, 4) = 0
            of(6, 4) = 1; of(7, 4) = 2; of(8, 4) = 3; of(9, 4) = 0; of(10, 4) = 0
            """);
        boundary.holds("Lines and words", "The indentation of a line is 0 by SCHEME 0", """
            read "ABCD|AB" = 6; tell(1, 4) = 2; tell(6, 0) = 1; of(0, 4) = 0; of(1, 4) = 0; of(3, 4) = 0; of(4, 4) = 0; of(5, 4) = 0
            """);
        boundary.holds("Lines and words", "STEP * rank by SCHEME 1", """
            read "ABCD|AB" = 6; tell(1, 4) = 2; of(0, 4) = 0; of(1, 4) = 4; of(3, 4) = 12; of(4, 4) = 0; of(5, 4) = 4
            tell(1, 0) = 4; of(0, 4) = 0; of(1, 4) = 0; of(3, 4) = 0
            """);
        boundary.holds("Lines and words", "and alternately 0 and STEP for the lines of each stanza, beginning with 0, by SCHEME 2.", """
            read "AAA|AA|A|AAAAAA" = 12; tell(6, 2) = 1; of(0, 4) = 0; of(1, 4) = 2; of(2, 4) = 0; of(3, 4) = 0; of(4, 4) = 2; of(5, 4) = 0
            of(6, 4) = 0; of(7, 4) = 2; of(11, 4) = 2; tell(1, 4) = 2; of(10, 4) = 0; of(11, 4) = 4; tell(1, 0) = 4; of(10, 4) = 0; of(11, 4) = 0
            """);
    }

    private void newObject() {
        boundary.holds("Promise 1", "Creates a typesetter without lines", """
            count(7) = 0; count(8) = 0; count(9) = 0; count(10) = 0; count(11) = 0; count(12) = 0; undo() = NONE; drop() = NONE
            """);
        boundary.holds("Promise 1", "with the settings as at first", """
            count(0) = 20; count(1) = 2; count(2) = 4; count(3) = 8; count(4) = 2; count(5) = 0; count(6) = 1
            """);
        boundary.holds("Promise 1", "the random number 1", "seed(0) = 1", "drift(1) = 0; seed(0) = 1103527590");
        boundary.holds("Promise 1", "an empty tape", "type(65) = 1", "read() = 0; count(7) = 0");
        boundary.holds("Promise 1", "empty sheets", """
            lift(0) = NULL; lift(1) = NULL; lift(2) = NULL; lift(3) = NULL; film(0, 0, 0) = NULL; cuts(1, 0, 0, 1) = NULL
            item(2, 0, 0, 0L) = NULL; copy(3, 0, 3, 0, 0) = NULL
            """);
        boundary.holds("Promise 1", "no image", "restore() = NONE; line(0, 0) = 0; restore() = NONE; count(7) = 1; image() = 1; restore() = 1");
    }

    private void line() {
        boundary.holds("Promise 2", "Appends a line without words.", """
            line(0, 0) = 0; of(0, 2) = 0; 6 * word(9, 3) = 6; line(0, 0) = 1; of(1, 2) = 0; said(1, 0, 0) = BAD; drop() = 1; drop() = 0
            line(0, 0) = 0; of(0, 2) = 0; said(0, 0, 0) = BAD; word(1, 0) = 1; said(0, 0, 0) = 1; said(0, 0, 1) = 0
            """);
        boundary.holds("Promise 2", "`rhyme`: 0 to 3", """
            line(-1, 0) = BAD; line(0, 0) = 0; line(1, 0) = 1; line(2, 0) = 2; line(3, 0) = 3; line(4, 0) = BAD; line(MIN, 0) = BAD
            line(MAX, 0) = BAD; of(0, 0) = 0; of(1, 0) = 1; of(2, 0) = 2; of(3, 0) = 3; count(7) = 4
            """);
        boundary.holds("Promise 2", "`begins`: 1 if it begins a stanza, 0 if not", """
            line(0, 1) = 0; line(0, -1) = BAD; line(0, 0) = 1; line(0, 1) = 2; line(0, 2) = BAD; line(0, MIN) = BAD; line(0, MAX) = BAD
            of(1, 1) = 0; of(2, 1) = 1; count(7) = 3
            """);
        boundary.holds("Promise 2", "(line 0 does in any case)", """
            line(0, 2) = BAD; line(0, -1) = BAD; line(0, 0) = 0; of(0, 1) = 1; undo() = 0; line(0, 1) = 0; of(0, 1) = 1
            """);
        boundary.holds("Promise 2", "Returns the number of the line; BAD if an argument is out of range", """
            line(0, 0) = 0; line(4, 0) = BAD; line(0, 2) = BAD; line(-1, -1) = BAD; line(0, 0) = 1; 9 * line(3, 1) = 10; line(3, 1) = 11
            """);
        boundary.holds("Promise 2", "FULL if there are 12 lines.", """
            11 * line(0, 0) = 10; line(0, 0) = 11; line(0, 0) = FULL; line(3, 1) = FULL; count(7) = 12; drop() = 11; line(3, 1) = 11
            line(0, 0) = FULL; of(11, 0) = 3; undo() = 5; undo() = 4; line(0, 0) = FULL
            """);
    }

    private void word() {
        boundary.holds("Promise 3", "Appends a word to the last line.", """
            line(0, 0) = 0; line(0, 0) = 1; word(1, 0) = 1; of(0, 2) = 0; of(1, 2) = 1; drop() = 1; word(2, 0) = 1; said(0, 0, 0) = 2
            """, """
            11 * line(0, 0) = 10; line(0, 0) = 11; word(7, 2) = 1; of(11, 2) = 1; of(10, 2) = 0; said(11, 0, 0) = 7; said(11, 0, 1) = 2
            """);
        boundary.holds("Promise 3", "`letters`: 1 to 9", """
            line(0, 0) = 0; word(0, 0) = BAD; word(1, 0) = 1; word(9, 0) = 2; word(10, 0) = BAD; word(MIN, 0) = BAD; word(MAX, 0) = BAD
            word(-1, 0) = BAD; of(0, 2) = 2
            """);
        boundary.holds("Promise 3", "`pause`: 0 to 3", """
            line(0, 0) = 0; word(1, -1) = BAD; word(1, 0) = 1; word(1, 1) = 2; word(1, 2) = 3; word(1, 3) = 4; word(1, 4) = BAD
            word(1, MIN) = BAD; word(1, MAX) = BAD; of(0, 2) = 4; said(0, 0, 1) = 0; said(0, 1, 1) = 1; said(0, 2, 1) = 2; said(0, 3, 1) = 3
            """);
        boundary.holds("Promise 3", "Returns the number of words of the line; BAD if an argument is out of range", """
            line(0, 0) = 0; word(1, 0) = 1; word(1, 0) = 2; word(0, 4) = BAD; word(1, 0) = 3; word(1, 0) = 4; word(1, 0) = 5; word(1, 0) = 6
            """);
        boundary.holds("Promise 3", "NONE if there are no lines", """
            word(1, 0) = NONE; word(9, 3) = NONE; line(0, 0) = 0; word(1, 0) = 1; drop() = 0; word(1, 0) = NONE; count(12) = 3
            """);
        boundary.holds("Promise 3", "FULL if the line has 6 words.", """
            line(0, 0) = 0; 5 * word(2, 1) = 5; word(3, 2) = 6; word(1, 0) = FULL; word(9, 3) = FULL; of(0, 2) = 6; said(0, 5, 0) = 3
            undo() = 5; word(1, 0) = 6; word(1, 0) = FULL; line(0, 0) = 1; word(1, 0) = 1
            """);
    }

    private void drop() {
        boundary.holds("Promise 4", "Removes the last line.", """
            read "A|BC|D1" = 4; drop() = 3; count(8) = 2; of(3, 0) = BAD; of(2, 0) = 2; drop() = 2; of(1, 0) = 1; of(1, 1) = 1; drop() = 1
            count(8) = 1; drop() = 0; count(8) = 0; of(0, 0) = BAD
            """);
        boundary.holds("Promise 4", "Returns the number of lines that are left; NONE if there are no lines.", """
            drop() = NONE; 12 * line(0, 0) = 11; drop() = 11; 10 * drop() = 1; drop() = 0; drop() = NONE; drop() = NONE; count(7) = 0
            line(0, 0) = 0; drop() = 0; drop() = NONE
            """);
    }

    private void rhyme() {
        boundary.holds("Promise 5", "`k`: number of the line", """
            12 * line(0, 0) = 11; rhyme(-1, 1) = BAD; rhyme(0, 1) = 0; rhyme(11, 1) = 0; rhyme(12, 1) = BAD; of(0, 0) = 1; of(1, 0) = 0; of(10, 0) = 0
            of(11, 0) = 1
            """);
        boundary.holds("Promise 5", "`r`: the new rhyme, 0 to 3", """
            line(1, 0) = 0; rhyme(0, -1) = BAD; rhyme(0, 0) = 1; rhyme(0, 3) = 0; rhyme(0, 4) = BAD; rhyme(0, MIN) = BAD; rhyme(0, MAX) = BAD
            of(0, 0) = 3
            """);
        boundary.holds("Promise 5", "BAD if there is no such line, or r is out of range", """
            rhyme(0, 0) = BAD; rhyme(-1, 0) = BAD; line(0, 0) = 0; rhyme(0, 1) = 0; rhyme(1, 1) = BAD; rhyme(-1, 1) = BAD; line(0, 0) = 1
            rhyme(1, 1) = 0; rhyme(2, 1) = BAD; rhyme(MIN, 1) = BAD; rhyme(MAX, 1) = BAD; drop() = 1; rhyme(1, 2) = BAD
            """, """
            12 * line(0, 0) = 11; rhyme(11, 3) = 0; rhyme(12, 3) = BAD; of(11, 0) = 3; of(10, 0) = 0
            """);
        boundary.holds("Promise 5", "NOT if the line has this rhyme already.", """
            line(0, 0) = 0; line(3, 0) = 1; rhyme(0, 0) = NOT; rhyme(1, 3) = NOT; rhyme(0, 3) = 0; rhyme(0, 3) = NOT; rhyme(1, 0) = 3
            rhyme(1, 0) = NOT; count(12) = 4
            """);
    }

    private void tell() {
        boundary.holds("Promise 6", "`what`: number of the setting, 0 to 6", """
            tell(-1, 1) = BAD; tell(0, 40) = 20; tell(6, 2) = 1; tell(7, 1) = BAD; count(0) = 40; count(6) = 2; count(12) = 2
            """);
        boundary.holds("Promise 6", "`v`: its new value", """
            tell(0, 6) = 20; tell(0, 5) = BAD; tell(1, 4) = 2; tell(1, 5) = BAD; tell(2, 9) = 4; tell(2, 10) = BAD; tell(3, 20) = 8; tell(3, 21) = BAD
            tell(4, 3) = 2; tell(4, 4) = BAD; tell(5, 2) = 0; tell(5, 3) = BAD; tell(6, 0) = 1; tell(6, -1) = BAD; count(0) = 6; count(1) = 4; count(2) = 9
            count(3) = 20; count(4) = 3; count(5) = 2; count(6) = 0
            """);
        boundary.holds("Promise 6", "BAD if what or v is out of range", """
            tell(7, 41) = BAD; tell(-1, -1) = BAD; tell(0, 5) = BAD; tell(0, 41) = BAD; tell(MIN, MIN) = BAD; tell(MAX, MAX) = BAD
            tell(3, 1) = BAD; tell(3, 21) = BAD; tell(4, 0) = BAD; tell(4, 4) = BAD; count(12) = 0; count(0) = 20; count(3) = 8; count(4) = 2
            """);
        boundary.holds("Promise 6", "NOT if it has this value already.", """
            tell(0, 20) = NOT; tell(1, 2) = NOT; tell(2, 4) = NOT; tell(3, 8) = NOT; tell(4, 2) = NOT; tell(5, 0) = NOT; tell(6, 1) = NOT
            count(12) = 0; tell(0, 21) = 20; tell(0, 21) = NOT; tell(0, 20) = 21; tell(0, 20) = NOT; count(12) = 2
            """);
    }
}
