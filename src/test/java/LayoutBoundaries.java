/** The boundaries that "Breaking lines" and promises 7, 8 and 12 name. */
final class LayoutBoundaries {
    private final Boundary boundary;

    LayoutBoundaries(Boundary boundary) {
        this.boundary = boundary;
    }

    void all() {
        layouts();
        widths();
        costs();
        choice();
        of();
        said();
        settings();
    }

    private void layouts() {
        boundary.holds("Breaking lines", "A layout of a line distributes its words to rows, in their order, at least one word to each row.", """
            tell(0, 40) = 20; read "A1" = 1; settings(0) = 1; word(1, 0) = 2; settings(0) = 2; word(1, 0) = 3; settings(0) = 4; 3 * word(1, 0) = 6
            settings(0) = 32
            """, """
            read "A666666" = 1; tell(0, 6) = 20; tell(2, 0) = 4; settings(0) = 1; of(0, 5) = 6; said(0, 0, 2) = 0; said(0, 1, 2) = 1; said(0, 5, 2) = 5
            """);
        boundary.holds("Breaking lines", "The first row begins at the indentation, each further one at the indentation + OVER.", """
            read "A99B9999" = 2; tell(0, 30) = 20; said(0, 0, 3) = 0; said(1, 0, 3) = 2; said(1, 1, 3) = 12; said(1, 2, 2) = 1; said(1, 2, 3) = 6
            said(1, 3, 3) = 16; tell(2, 0) = 4; said(1, 2, 3) = 2; tell(2, 9) = 0; said(1, 2, 3) = 11; said(1, 3, 3) = 21; said(0, 0, 3) = 0
            """, """
            read "A9999" = 1; tell(0, 18) = 20; said(0, 1, 3) = 4; said(0, 2, 3) = 4; said(0, 3, 3) = 4; tell(2, 0) = 4; said(0, 1, 3) = 0
            said(0, 3, 3) = 0; tell(2, 9) = 0; said(0, 0, 3) = 0; said(0, 1, 3) = 9; said(0, 3, 3) = 9
            """);
    }

    private void widths() {
        boundary.holds("Breaking lines", "plus 1 for each space between two words", """
            tell(0, 6) = 20; read "A6" = 1; of(0, 5) = 1; tell(2, 0) = 4; read "A33" = 1; of(0, 5) = 2; read "A32" = 1; of(0, 5) = 1
            read "A112" = 1; of(0, 5) = 1; read "A113" = 1; of(0, 5) = 2; read "A1111" = 1; of(0, 5) = 2; tell(0, 7) = 6; of(0, 5) = 1
            tell(0, 11) = 7; read "A111111" = 1; of(0, 5) = 1; tell(0, 10) = 11; of(0, 5) = 2
            """);
        boundary.holds("Breaking lines", "it must not be greater than MEASURE", """
            tell(0, 6) = 20; read "A6" = 1; of(0, 5) = 1; read "A7" = 1; of(0, 5) = NONE; tell(0, 7) = 6; of(0, 5) = 1
            """, """
            tell(0, 40) = 20; read "A99981" = 1; of(0, 5) = 1; read "A99991" = 1; of(0, 5) = 2; said(0, 3, 2) = 0; said(0, 4, 2) = 1
            """, """
            tell(0, 6) = 20; read "A63" = 1; of(0, 5) = NONE; settings(0) = 0; tell(2, 3) = 4; of(0, 5) = 2; settings(0) = 1; tell(2, 2) = 3
            settings(0) = 1; read "A62" = 1; tell(2, 4) = 2; of(0, 5) = 2; tell(2, 5) = 4; of(0, 5) = NONE
            """, """
            read "ABCD8" = 4; tell(1, 4) = 2; of(3, 4) = 12; of(3, 5) = 1; tell(0, 19) = 20; of(3, 5) = NONE; tell(1, 3) = 4; of(3, 5) = 1
            """, """
            read "ABC99" = 3; tell(0, 17) = 20; of(2, 4) = 4; of(2, 5) = 2; said(2, 1, 3) = 8; tell(0, 16) = 17; of(2, 5) = NONE; tell(0, 23) = 16
            of(2, 5) = 1; tell(0, 22) = 23; of(2, 5) = 2
            """);
    }

    private void costs() {
        boundary.holds("Breaking lines", "Each row except the last one costs", """
            read "A9!" = 1; of(0, 6) = 0; tell(5, 1) = 0; of(0, 6) = 0; tell(5, 2) = 1; of(0, 6) = 0; tell(0, 40) = 20; of(0, 6) = 0
            """, """
            read "A66" = 1; tell(0, 10) = 20; of(0, 6) = 1; tell(5, 1) = 0; of(0, 6) = 19; tell(5, 2) = 1; of(0, 6) = 16
            """);
        boundary.holds("Breaking lines", "by RULE 0: 1", """
            read "A666666" = 1; tell(0, 6) = 20; tell(2, 0) = 4; of(0, 6) = 5; drop() = 0; read "A666" = 1; of(0, 6) = 2; read "A6" = 1; of(0, 6) = 0
            """);
        boundary.holds("Breaking lines", "by RULE 1: 10 + (3 - p) squared, where p is the pause after its last word", """
            tell(0, 6) = 20; tell(2, 0) = 4; tell(5, 1) = 0; read "A66" = 1; of(0, 6) = 19; read "A6,6" = 1; of(0, 6) = 14; read "A6.6" = 1; of(0, 6) = 11
            read "A6!6" = 1; of(0, 6) = 10; read "A66!" = 1; of(0, 6) = 19; read "A666666" = 1; of(0, 6) = 95; read "A6!6!6!6!6!6!" = 1; of(0, 6) = 50
            """, """
            tell(0, 7) = 20; tell(2, 0) = 4; tell(5, 1) = 0; read "A3,3!7" = 1; of(0, 5) = 2; of(0, 6) = 10; read "A3!37" = 1; of(0, 6) = 19
            """);
        boundary.holds("Breaking lines", "by RULE 2: (MEASURE - its width) squared.", """
            tell(0, 6) = 20; tell(2, 0) = 4; tell(5, 2) = 0; read "A66" = 1; of(0, 6) = 0; tell(0, 7) = 6; of(0, 6) = 1; tell(0, 12) = 7; of(0, 6) = 36
            tell(0, 13) = 12; of(0, 6) = 0; of(0, 5) = 1
            """, """
            tell(0, 18) = 20; tell(2, 9) = 4; tell(5, 2) = 0; read "A99" = 1; of(0, 6) = 81; of(0, 5) = 2; read "A999999" = 1; of(0, 6) = 81; of(0, 5) = 6
            """);
        boundary.holds("Breaking lines", "A line without words has exactly one layout, with one row, which costs 0.", """
            line(0, 0) = 0; settings(0) = 1; of(0, 5) = 1; of(0, 6) = 0; tell(5, 1) = 0; of(0, 6) = 0; tell(5, 2) = 1; of(0, 6) = 0; of(0, 5) = 1
            settings(0) = 1; said(0, 0, 2) = BAD; count(9) = 0; count(10) = 1
            """, """
            read "ABCD" = 4; tell(0, 6) = 20; tell(1, 4) = 2; tell(2, 9) = 4; of(3, 4) = 12; of(3, 5) = 1; of(3, 6) = 0; settings(3) = 1; of(3, 7) = 0
            word(1, 0) = 1; of(3, 5) = NONE; settings(3) = 0
            """);
    }

    private void choice() {
        boundary.holds("Breaking lines", "is the one with the smallest cost", """
            tell(2, 0) = 4; tell(0, 11) = 20; read "A3!333" = 1; of(0, 6) = 1; said(0, 1, 2) = 0; said(0, 2, 2) = 0; said(0, 3, 2) = 1
            tell(5, 1) = 0; of(0, 6) = 10; said(0, 1, 2) = 1; said(0, 3, 2) = 1; tell(5, 2) = 1; of(0, 6) = 0; said(0, 2, 2) = 0; said(0, 3, 2) = 1
            """);
        boundary.holds("Breaking lines", "of several the one with the most words in the first row", """
            tell(2, 0) = 4; tell(0, 7) = 20; read "A3333" = 1; said(0, 1, 2) = 0; said(0, 2, 2) = 1; read "A333" = 1; said(0, 1, 2) = 0; said(0, 2, 2) = 1
            read "A111111" = 1; said(0, 3, 2) = 0; said(0, 4, 2) = 1; tell(5, 1) = 0; said(0, 3, 2) = 0; said(0, 4, 2) = 1
            """);
        boundary.holds("Breaking lines", "of these the one with the most words in the second row, and so on.", """
            tell(2, 0) = 4; tell(0, 6) = 20; read "A6222" = 1; of(0, 5) = 3; said(0, 1, 2) = 1; said(0, 2, 2) = 1; said(0, 3, 2) = 2
            read "A66222" = 1; of(0, 5) = 4; said(0, 2, 2) = 2; said(0, 3, 2) = 2; said(0, 4, 2) = 3
            read "A666222" = 1; of(0, 5) = 5; said(0, 3, 2) = 3; said(0, 4, 2) = 3; said(0, 5, 2) = 4
            """);
        boundary.holds("Breaking lines", "A line fits if it has a layout.", """
            tell(0, 13) = 20; read "A99" = 1; settings(0) = 1; of(0, 5) = 2; tell(0, 12) = 13; settings(0) = 0; of(0, 5) = NONE; count(10) = NONE
            tell(2, 3) = 4; settings(0) = 1; of(0, 5) = 2; count(10) = 1
            """);
    }

    private void of() {
        boundary.holds("Promise 7", "`k`: number of the line", """
            of(0, 0) = BAD; of(-1, 0) = BAD; 12 * line(2, 0) = 11; of(0, 0) = 2; of(11, 0) = 2; of(12, 0) = BAD; of(-1, 0) = BAD; of(MIN, 0) = BAD
            of(MAX, 0) = BAD; of(12, 7) = BAD; of(-1, 7) = BAD; of(12, 5) = BAD
            """);
        boundary.holds("Promise 7", "7 for its page, from 0", """
            line(0, 0) = 0; of(0, 7) = 0; read "A|A|A|A|A|A|A|A|A|A|A|A" = 12; tell(3, 2) = 8; of(0, 7) = 0; of(1, 7) = 1; of(11, 7) = 11
            """);
        boundary.holds("Promise 7", "NONE for 5 and 6 if the line does not fit", """
            read "A9|B1" = 2; tell(0, 9) = 20; of(0, 5) = 1; of(0, 6) = 0; tell(0, 8) = 9; of(0, 5) = NONE; of(0, 6) = NONE; of(1, 5) = 1; of(1, 6) = 0
            of(0, 4) = 0; of(0, 3) = 0; of(0, 2) = 1
            """);
        boundary.holds("Promise 7", "and for 7 if there is no distribution to pages", """
            read "A9|B1" = 2; tell(0, 9) = 20; of(0, 7) = 0; of(1, 7) = 0; tell(0, 8) = 9; of(0, 7) = NONE; of(1, 7) = NONE
            """, """
            read "AAA|B" = 4; tell(3, 3) = 8; of(0, 7) = 0; of(3, 7) = 1; tell(3, 2) = 3; of(0, 7) = NONE; of(3, 7) = NONE; of(3, 5) = 1; of(0, 6) = 0
            """);
        boundary.holds("Promise 7", "BAD if there is no such line, or what is not 0 to 7.", """
            of(0, 7) = BAD; line(3, 0) = 0; of(0, -1) = BAD; of(0, 0) = 3; of(0, 7) = 0; of(0, 8) = BAD; of(0, MIN) = BAD; of(0, MAX) = BAD
            of(1, 0) = BAD; of(1, 8) = BAD; drop() = 0; of(0, 0) = BAD
            """);
    }

    private void said() {
        boundary.holds("Promise 8", "`k`: number of the line", """
            said(0, 0, 0) = BAD; read "A1A1A1A1A1A1A1A1A1A1A1A8" = 12; said(0, 0, 0) = 1; said(11, 0, 0) = 8; said(12, 0, 0) = BAD; said(-1, 0, 0) = BAD
            said(MIN, 0, 0) = BAD; said(MAX, 0, 0) = BAD
            """);
        boundary.holds("Promise 8", "`i`: index of the word in the line, from 0", """
            read "A1|B234567" = 2; said(0, 0, 0) = 1; said(0, 1, 0) = BAD; said(0, -1, 0) = BAD; said(1, 0, 0) = 2; said(1, 5, 0) = 7
            said(1, 6, 0) = BAD; said(1, -1, 0) = BAD; said(1, MIN, 0) = BAD; said(1, MAX, 0) = BAD
            """);
        boundary.holds("Promise 8", "2 for the row of the layout in which it is, from 0", """
            read "A666666" = 1; tell(0, 6) = 20; tell(2, 0) = 4; said(0, 0, 2) = 0; said(0, 1, 2) = 1; said(0, 5, 2) = 5; tell(0, 40) = 6
            said(0, 0, 2) = 0; said(0, 4, 2) = 0; said(0, 5, 2) = 1
            """);
        boundary.holds("Promise 8", "3 for the position at which it begins in this row (the beginning of a row as described)", """
            read "A1|AB11" = 3; said(0, 0, 3) = 0; said(2, 0, 3) = 2; said(2, 1, 3) = 4; tell(0, 6) = 20; said(2, 0, 3) = 2; said(2, 1, 3) = 4
            """, """
            read "ABCD91" = 4; tell(1, 4) = 2; tell(2, 9) = 4; tell(0, 22) = 20; said(3, 0, 3) = 12; said(3, 1, 3) = 21; tell(0, 23) = 22; said(3, 1, 3) = 22
            """);
        boundary.holds("Promise 8", "NONE for 2 and 3 if the line does not fit", """
            read "A9|B1" = 2; tell(0, 9) = 20; said(0, 0, 2) = 0; said(0, 0, 3) = 0; tell(0, 8) = 9; said(0, 0, 2) = NONE; said(0, 0, 3) = NONE
            said(0, 0, 0) = 9; said(0, 0, 1) = 0; said(1, 0, 2) = 0; said(1, 0, 3) = 0
            """, """
            read "A67" = 1; tell(0, 10) = 20; said(0, 0, 2) = NONE; said(0, 1, 3) = NONE; tell(0, 11) = 10; said(0, 0, 2) = 0; said(0, 1, 3) = 4
            """);
        boundary.holds("Promise 8", "BAD if there is no such line or word, or what is not 0 to 3.", """
            said(0, 0, 0) = BAD; line(0, 0) = 0; said(0, 0, 0) = BAD; said(0, 0, 3) = BAD; word(4, 2) = 1; said(0, 0, -1) = BAD; said(0, 0, 0) = 4
            said(0, 0, 1) = 2; said(0, 0, 3) = 0; said(0, 0, 4) = BAD; said(0, 0, MIN) = BAD; said(0, 0, MAX) = BAD; said(0, 1, 3) = BAD
            said(1, 0, 3) = BAD; said(1, 1, 4) = BAD
            """, """
            read "A9" = 1; tell(0, 8) = 20; said(0, 1, 2) = BAD; said(0, 0, 4) = BAD; said(1, 0, 2) = BAD; said(0, 0, 2) = NONE
            """);
    }

    private void settings() {
        boundary.holds("Promise 12", "`k`: number of the line", """
            12 * line(0, 0) = 11; settings(0) = 1; settings(11) = 1; settings(12) = BAD; settings(-1) = BAD; settings(MIN) = BAD; settings(MAX) = BAD
            """);
        boundary.holds("Promise 12", "Returns the number of layouts (0 if it does not fit)", """
            tell(0, 40) = 20; tell(2, 0) = 4; read "A111111" = 1; settings(0) = 32; tell(0, 11) = 40; settings(0) = 32; tell(0, 10) = 11; settings(0) = 31
            """, """
            read "A66" = 1; tell(0, 13) = 20; settings(0) = 2; tell(0, 12) = 13; settings(0) = 1; tell(0, 10) = 12; settings(0) = 1; tell(0, 9) = 10
            settings(0) = 0; of(0, 5) = NONE
            """);
        boundary.holds("Promise 12", "BAD if there is no such line.", """
            settings(0) = BAD; settings(-1) = BAD; line(0, 0) = 0; settings(0) = 1; settings(1) = BAD; drop() = 0; settings(0) = BAD
            """);
    }
}
