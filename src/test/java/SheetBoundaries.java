/** The boundaries that "Sheets", "Errors" and promises 21 to 26 name. */
final class SheetBoundaries {
    private final Boundary boundary;

    SheetBoundaries(Boundary boundary) {
        this.boundary = boundary;
    }

    void all() {
        sheets();
        errors();
        ranges();
        cuts();
        cutsElements();
        film();
        sheet();
        lift();
        item();
        copy();
        copyWithin();
    }

    private void sheets() {
        boundary.holds("Sheets", "There are four sheets, 0 to 3.", """
            sheet(-1, 0, 1) = BAD; sheet(0, 0, 1) = 1; sheet(3, 0, 4) = 4; sheet(4, 0, 1) = BAD; sheet(1, 0, 2) = 2; sheet(2, 0, 3) = 3; lift(-1) = BAD
            lift(4) = BAD; lift(0) = 1; lift(1) = 2; lift(2) = 3; lift(3) = 4
            """);
        boundary.holds("Sheets", "A sheet is empty (as at first)", """
            lift(0) = NULL; lift(3) = NULL; sheet(0, 0, 0) = 0; lift(0) = 0; lift(0) = NULL; item(3, 0, 0, 1L) = NULL; copy(0, 0, 0, 0, 0) = NULL
            """);
        boundary.holds("Sheets", "or it holds an array of 0 to 24 elements", """
            sheet(0, 0, 0) = 0; item(0, 0, 0, 1L) = INDEX; film(0, 0, 0) = 0; film(0, 0, 1) = INDEX; sheet(0, 0, 24) = 24; item(0, 0, 23, 1L) = 1
            item(0, 0, 24, 1L) = INDEX; sheet(0, 0, 25) = BAD; lift(0) = 24; sheet(0, 0, -1) = SIZE; lift(0) = NULL
            """);
        boundary.holds("Sheets", "of one element type (parameter \"lane\"): 0 byte, 1 short, 2 int, 3 long.", """
            sheet(0, -1, 1) = BAD; sheet(0, 0, 1) = 1; sheet(1, 1, 1) = 1; sheet(2, 2, 1) = 1; sheet(3, 3, 1) = 1; sheet(3, 4, 1) = BAD; line(0, 0) = 0
            item(0, 0, 0, 257L) = 1; cuts(0, 0, 0, 1) = 0; item(1, 1, 0, 257L) = 1; cuts(1, 1, 0, 1) = NOT; item(1, 1, 0, 65537L) = 1
            cuts(1, 1, 0, 1) = 0; item(2, 2, 0, 65537L) = 1; cuts(2, 2, 0, 1) = NOT; item(2, 2, 0, 4294967297L) = 1; cuts(2, 2, 0, 1) = 0
            item(3, 3, 0, 4294967297L) = 1; cuts(3, 3, 0, 1) = NOT; item(3, 3, 0, 1L) = 1; cuts(3, 3, 0, 1) = 0
            """);
    }

    private void errors() {
        boundary.holds("Errors", "BAD (-1): an argument is out of its range, or there is no such thing.", """
            line(4, 0) = -1; of(0, 0) = -1; rhyme(0, 0) = -1; page(0, 0) = -1; stanza(0, 0) = -1; settings(0) = -1; count(13) = -1; sheet(4, 0, 0) = -1
            """);
        boundary.holds("Errors", "NOT (-2), FULL (-3), NONE (-4): as the methods say.", """
            tell(0, 20) = -2; drop() = -4; undo() = -4; restore() = -4; word(1, 0) = -4; 12 * line(0, 0) = 11; line(0, 0) = -3; rhyme(0, 0) = -2
            6 * word(1, 0) = 6; word(1, 0) = -3
            """);
        boundary.holds("Errors", "NULL (-11): the sheet is empty.", """
            cuts(0, 0, 0, 1) = -11; film(0, 0, 0) = -11; lift(0) = -11; item(0, 0, 0, 0L) = -11; copy(0, 0, 0, 0, 0) = -11; sheet(0, 0, 0) = 0
            cuts(0, 0, 0, 1) = -13; film(0, 0, 0) = 0; item(0, 0, 0, 0L) = -13; copy(0, 0, 0, 0, 0) = 0; lift(0) = 0; film(0, 0, 0) = -11
            """);
        boundary.holds("Errors", "CAST (-12): the array has another element type.", """
            sheet(0, 1, 2) = 2; sheet(1, 2, 2) = 2; cuts(0, 0, 0, 1) = -12; cuts(0, 2, 0, 1) = -12; film(0, 0, 0) = -12; film(0, 2, 0) = -12
            item(0, 0, 0, 0L) = -12; item(0, 3, 0, 0L) = -12; copy(0, 0, 1, 0, 0) = -12; copy(1, 0, 0, 0, 2) = -12; sheet(1, 1, 2) = 2; copy(0, 0, 1, 0, 2) = 2
            """);
        boundary.holds("Errors", "SIZE (-14): a negative size.", """
            sheet(0, 0, 0) = 0; sheet(0, 0, -1) = -14; sheet(3, 3, MIN) = -14; lift(0) = 0; lift(3) = NULL
            """);
        boundary.holds("Errors", "NONE is also returned by methods as a value that says that there is no such number.", """
            read "A9" = 1; tell(0, 9) = 20; of(0, 5) = 1; of(0, 6) = 0; of(0, 7) = 0; said(0, 0, 2) = 0; said(0, 0, 3) = 0; count(9) = 0; count(10) = 1
            count(11) = 0; tell(0, 8) = 9; of(0, 5) = -4; of(0, 6) = -4; of(0, 7) = -4; said(0, 0, 2) = -4; said(0, 0, 3) = -4; count(9) = -4
            count(10) = -4; count(11) = -4; settings(0) = 0
            """);
    }

    private void ranges() {
        boundary.holds("Errors", "INDEX (-13): an element, or a range, is not inside the array", """
            sheet(0, 0, 2) = 2; item(0, 0, -1, 1L) = -13; item(0, 0, 0, 1L) = 1; item(0, 0, 1, 1L) = 1; item(0, 0, 2, 1L) = -13; item(0, 0, MIN, 1L) = -13
            item(0, 0, MAX, 1L) = -13; line(0, 0) = 0; cuts(0, 0, 1, 1) = 0; cuts(0, 0, 2, 1) = -13; cuts(0, 0, -1, 1) = -13; cuts(0, 0, 0, 2) = NOT
            cuts(0, 0, 0, 3) = -13; cuts(0, 0, 1, 2) = -13
            """);
        boundary.holds("Errors", "a range of n elements from index i on is not inside if n or i is negative", """
            sheet(0, 0, 2) = 2; copy(0, 0, 0, 0, 0) = 0; copy(0, 0, 0, 0, -1) = INDEX; copy(0, -1, 0, 0, 1) = INDEX; copy(0, 0, 0, -1, 1) = INDEX
            copy(0, 1, 0, 1, -1) = INDEX; copy(0, 2, 0, 2, -2) = INDEX; copy(0, 0, 0, 0, MIN) = INDEX; copy(0, MIN, 0, 0, 1) = INDEX
            copy(0, -1, 0, 0, 0) = INDEX; film(0, 0, -1) = INDEX; cuts(0, 0, -1, 2) = INDEX; copy(0, MIN, 0, MIN, MIN) = INDEX; copy(0, 2, 0, 2, MIN) = INDEX
            """);
        boundary.holds("Errors", "or i + n (without overflow) is above the length", """
            sheet(0, 0, 2) = 2; copy(0, 0, 0, 0, 2) = 2; copy(0, 1, 0, 1, 1) = 1; copy(0, 0, 0, 0, 3) = INDEX; copy(0, 1, 0, 0, 2) = INDEX
            copy(0, 0, 0, 1, 2) = INDEX; copy(0, 2, 0, 0, 1) = INDEX; copy(0, MAX, 0, 0, 1) = INDEX; copy(0, 0, 0, MAX, 1) = INDEX
            copy(0, 1, 0, 0, MAX) = INDEX; copy(0, MAX, 0, MAX, MAX) = INDEX; copy(0, MAX, 0, MAX, 2) = INDEX; cuts(0, 0, MAX, 1) = INDEX
            cuts(0, 0, MAX, 12) = INDEX; line(0, 0) = 0; film(0, 0, MAX) = INDEX; film(0, 0, 1) = 1; film(0, 0, 2) = INDEX
            """);
        boundary.holds("Errors", "also if n is 0", """
            sheet(0, 0, 2) = 2; copy(0, 2, 0, 2, 0) = 0; copy(0, 3, 0, 0, 0) = INDEX; copy(0, 0, 0, 3, 0) = INDEX; copy(0, MAX, 0, 0, 0) = INDEX
            copy(0, 0, 0, MAX, 0) = INDEX; film(0, 0, 2) = 0; film(0, 0, 3) = INDEX; film(0, 0, MAX) = INDEX; sheet(1, 0, 0) = 0; copy(1, 0, 1, 0, 0) = 0
            copy(1, 1, 1, 0, 0) = INDEX; copy(1, 0, 1, 1, 0) = INDEX; film(1, 0, 0) = 0; film(1, 0, 1) = INDEX
            """, """
            sheet(0, 0, 24) = 24; copy(0, 24, 0, 24, 0) = 0; copy(0, 25, 0, 24, 0) = INDEX; copy(0, 24, 0, 25, 0) = INDEX; film(0, 0, 24) = 0
            film(0, 0, 25) = INDEX
            """);
    }

    private void cuts() {
        boundary.holds("Promise 21", "`sheet`: the sheet, 0 to 3", """
            line(0, 0) = 0; sheet(0, 0, 1) = 1; film(0, 0, 0) = 1; sheet(3, 0, 1) = 1; film(3, 0, 0) = 1; cuts(-1, 0, 0, 1) = BAD; cuts(0, 0, 0, 1) = 0
            cuts(3, 0, 0, 1) = 0; cuts(4, 0, 0, 1) = BAD; cuts(MIN, 0, 0, 1) = BAD; cuts(MAX, 0, 0, 1) = BAD
            """);
        boundary.holds("Promise 21", "`lane`: the expected element type, 0 to 3", """
            line(0, 0) = 0; sheet(0, 0, 1) = 1; film(0, 0, 0) = 1; cuts(0, -1, 0, 1) = BAD; cuts(0, 0, 0, 1) = 0; cuts(0, 3, 0, 1) = CAST; cuts(0, 4, 0, 1) = BAD
            sheet(0, 3, 1) = 1; film(0, 3, 0) = 1; cuts(0, 3, 0, 1) = 0; cuts(0, 0, 0, 1) = CAST; cuts(0, MIN, 0, 1) = BAD; cuts(0, MAX, 0, 1) = BAD
            """);
        boundary.holds("Promise 21", "`i`: index of the first element", """
            line(0, 0) = 0; sheet(0, 0, 24) = 24; item(0, 0, 0, 1L) = 1; item(0, 0, 23, 1L) = 1; cuts(0, 0, -1, 1) = INDEX; cuts(0, 0, 0, 1) = 0
            cuts(0, 0, 23, 1) = 0; cuts(0, 0, 24, 1) = INDEX; cuts(0, 0, 22, 1) = NOT
            """);
        boundary.holds("Promise 21", "`n`: the number of pages, 1 to 12", """
            read "AAAAAAAAAAAA" = 12; tell(4, 1) = 2; sheet(0, 1, 24) = 24; film(0, 1, 0) = 12; cuts(0, 1, 0, 12) = 11; cuts(0, 1, 0, 13) = BAD
            cuts(0, 1, 0, 0) = BAD; cuts(0, 1, 0, -1) = BAD; cuts(0, 1, 0, MIN) = BAD; cuts(0, 1, 0, MAX) = BAD; tell(3, 12) = 8; item(0, 1, 0, 12L) = 1
            cuts(0, 1, 0, 1) = 0; film(0, 1, 12) = 12; cuts(0, 1, 12, 12) = 11; cuts(0, 1, 13, 12) = INDEX; cuts(0, 1, 12, 13) = BAD
            """);
        boundary.holds("Promise 21", "Returns the number of cuts of this distribution; BAD if sheet, lane or n is out of range; NULL; CAST; INDEX", """
            cuts(0, 0, 0, 1) = NULL; sheet(0, 0, 1) = 1; cuts(0, 1, 0, 1) = CAST; cuts(0, 0, 1, 1) = INDEX; cuts(0, 0, 0, 1) = NOT; cuts(4, 0, 0, 1) = BAD
            cuts(0, 4, 0, 1) = BAD; cuts(0, 0, 0, 13) = BAD
            """);
    }

    private void cutsElements() {
        boundary.holds("Promise 21", "NOT if an element is not 1 to 12", """
            read "AAAAAAAAAAAA" = 12; tell(3, 12) = 8; sheet(0, 3, 2) = 2; item(0, 3, 0, 12L) = 1; cuts(0, 3, 0, 1) = 0; item(0, 3, 1, 0L) = 1
            cuts(0, 3, 0, 2) = NOT; item(0, 3, 0, 13L) = 1; cuts(0, 3, 0, 1) = NOT; item(0, 3, 1, -1L) = 1; cuts(0, 3, 0, 2) = NOT
            item(0, 3, 0, 11L) = 1; item(0, 3, 1, 1L) = 1; tell(4, 1) = 2; cuts(0, 3, 0, 2) = 1; copy(0, 1, 0, 0, 1) = 1; item(0, 3, 1, 11L) = 1; cuts(0, 3, 0, 2) = 1
            """, """
            line(0, 0) = 0; sheet(0, 3, 2) = 2; item(0, 3, 0, 9223372036854775807L) = 1; item(0, 3, 1, -9223372036854775806L) = 1; cuts(0, 3, 0, 2) = NOT
            item(0, 3, 0, 4294967297L) = 1; cuts(0, 3, 0, 1) = NOT; item(0, 3, 0, -4294967295L) = 1; cuts(0, 3, 0, 1) = NOT; item(0, 3, 0, 2L) = 1
            item(0, 3, 1, -1L) = 1; cuts(0, 3, 0, 2) = NOT
            """);
        boundary.holds("Promise 21", "or their sum is not the number of lines", """
            read "AAA" = 3; tell(4, 1) = 2; sheet(0, 0, 3) = 3; item(0, 0, 0, 2L) = 1; item(0, 0, 1, 1L) = 1; cuts(0, 0, 0, 1) = NOT; cuts(0, 0, 0, 2) = 1
            item(0, 0, 2, 1L) = 1; cuts(0, 0, 0, 3) = NOT; line(0, 0) = 3; cuts(0, 0, 0, 2) = NOT; cuts(0, 0, 0, 3) = 2; drop() = 3; drop() = 2
            cuts(0, 0, 0, 2) = NOT; drop() = 1; drop() = 0; cuts(0, 0, 0, 1) = NOT; cuts(0, 0, 1, 1) = NOT
            """);
        boundary.holds("Promise 21", "NONE if a line does not fit, or the distribution is not allowed.", """
            read "A9|B" = 2; sheet(0, 0, 2) = 2; film(0, 0, 0) = 2; tell(0, 9) = 20; cuts(0, 0, 0, 2) = 0; tell(0, 8) = 9; cuts(0, 0, 0, 2) = NONE
            cuts(0, 0, 0, 1) = NOT
            """, """
            read "A|B9" = 2; sheet(0, 0, 2) = 2; film(0, 0, 0) = 2; tell(0, 8) = 20; cuts(0, 0, 0, 2) = NONE; drop() = 1; cuts(0, 0, 0, 1) = 0
            """, """
            read "AA|B" = 3; sheet(0, 0, 2) = 2; item(0, 0, 0, 3L) = 1; tell(3, 4) = 8; cuts(0, 0, 0, 1) = 0; tell(3, 3) = 4; cuts(0, 0, 0, 1) = NONE
            item(0, 0, 0, 1L) = 1; item(0, 0, 1, 2L) = 1; cuts(0, 0, 0, 2) = NONE; tell(4, 1) = 2; cuts(0, 0, 0, 2) = 1
            """, """
            read "A|BBB" = 4; sheet(0, 0, 3) = 3; item(0, 0, 0, 1L) = 1; item(0, 0, 1, 3L) = 1; tell(3, 3) = 8; cuts(0, 0, 0, 2) = 0; tell(3, 2) = 3
            cuts(0, 0, 0, 2) = NONE
            """);
    }

    private void film() {
        boundary.holds("Promise 22", "Stores the numbers of rows of the layouts of all lines", """
            read "A666666" = 1; tell(0, 6) = 20; tell(2, 0) = 4; sheet(0, 0, 3) = 3; film(0, 0, 1) = 1; read "A|A|A|A|A|A" = 6; tell(3, 20) = 8
            cuts(0, 0, 1, 1) = 0; cuts(0, 0, 0, 1) = NOT; cuts(0, 0, 2, 1) = NOT; read "AAAAA" = 5; cuts(0, 0, 1, 1) = NOT; film(0, 0, 0) = INDEX
            """, """
            read "AAAAAAAAAAAA" = 12; tell(4, 1) = 2; sheet(3, 3, 12) = 12; film(3, 3, 0) = 12; cuts(3, 3, 0, 12) = 11; cuts(3, 3, 0, 11) = NOT
            """, """
            sheet(0, 0, 1) = 1; film(0, 0, 0) = 0; film(0, 0, 1) = 0; line(0, 0) = 0; cuts(0, 0, 0, 1) = NOT; film(0, 0, 0) = 1; cuts(0, 0, 0, 1) = 0
            """);
        boundary.holds("Promise 22", "NONE (-4) for a line that does not fit", """
            read "A|B9" = 2; sheet(0, 0, 2) = 2; tell(0, 9) = 20; film(0, 0, 0) = 2; cuts(0, 0, 0, 2) = 0; tell(0, 8) = 9; film(0, 0, 0) = 2; tell(0, 9) = 8
            cuts(0, 0, 0, 2) = NOT; drop() = 1; cuts(0, 0, 0, 1) = 0; cuts(0, 0, 1, 1) = NOT
            """);
        boundary.holds("Promise 22", "`sheet`: the sheet, 0 to 3", """
            sheet(0, 0, 1) = 1; sheet(3, 0, 1) = 1; line(0, 0) = 0; film(-1, 0, 0) = BAD; film(0, 0, 0) = 1; film(3, 0, 0) = 1; film(4, 0, 0) = BAD
            """);
        boundary.holds("Promise 22", "`lane`: the expected element type, 0 to 3", """
            sheet(0, 0, 1) = 1; sheet(3, 3, 1) = 1; line(0, 0) = 0; film(0, -1, 0) = BAD; film(0, 0, 0) = 1; film(3, 3, 0) = 1; film(3, 4, 0) = BAD
            """);
        boundary.holds("Promise 22", "`i`: index of the element for line 0", """
            read "A|A" = 2; sheet(0, 2, 24) = 24; film(0, 2, -1) = INDEX; film(0, 2, 22) = 2; film(0, 2, 23) = INDEX; cuts(0, 2, 22, 2) = 0
            cuts(0, 2, 21, 2) = NOT; film(0, 2, 0) = 2; cuts(0, 2, 0, 2) = 0
            """);
        boundary.holds("Promise 22", "Returns the number of lines; BAD if sheet or lane is out of range; NULL; CAST", """
            film(-1, 0, 0) = BAD; film(4, 0, 0) = BAD; film(0, -1, 0) = BAD; film(0, 4, 0) = BAD; film(3, 3, 0) = NULL; film(0, 0, 0) = NULL
            sheet(3, 3, 12) = 12; film(3, 2, 0) = CAST; film(3, 0, 0) = CAST; film(3, 3, 0) = 0; 12 * line(0, 0) = 11; film(3, 3, 0) = 12
            film(MIN, 0, 0) = BAD; film(MAX, 0, 0) = BAD; film(0, MIN, 0) = BAD; film(0, MAX, 0) = BAD
            """);
        boundary.holds("Promise 22", "INDEX if the range for all lines is not inside the array.", """
            sheet(0, 0, 3) = 3; film(0, 0, 3) = 0; film(0, 0, 4) = INDEX; film(0, 0, -1) = INDEX; line(0, 0) = 0; film(0, 0, 2) = 1; film(0, 0, 3) = INDEX
            line(0, 0) = 1; line(0, 0) = 2; film(0, 0, 0) = 3; film(0, 0, 1) = INDEX; line(0, 0) = 3; film(0, 0, 0) = INDEX; film(0, 0, MIN) = INDEX
            film(0, 0, MAX) = INDEX
            """, """
            12 * line(0, 1) = 11; sheet(0, 0, 11) = 11; film(0, 0, 0) = INDEX; sheet(0, 0, 12) = 12; film(0, 0, 0) = 12; sheet(0, 0, 24) = 24
            film(0, 0, 12) = 12; film(0, 0, 13) = INDEX; cuts(0, 0, 12, 12) = 0; cuts(0, 0, 11, 12) = NOT
            """);
    }

    private void sheet() {
        boundary.holds("Promise 23", "Gives a sheet a new array of zeros, in place of what it holds.", """
            line(0, 0) = 0; sheet(0, 0, 2) = 2; item(0, 0, 1, 1L) = 1; cuts(0, 0, 1, 1) = 0; sheet(0, 0, 2) = 2; cuts(0, 0, 1, 1) = NOT; item(0, 0, 1, 1L) = 1
            sheet(0, 0, 1) = 1; sheet(0, 0, 24) = 24; cuts(0, 0, 1, 1) = NOT; item(0, 0, 23, 1L) = 1; lift(0) = 24; sheet(0, 0, 24) = 24; cuts(0, 0, 23, 1) = NOT
            sheet(0, 3, 0) = 0; item(0, 0, 0, 1L) = CAST; item(0, 3, 0, 1L) = INDEX; lift(0) = 0
            """);
        boundary.holds("Promise 23", "`sheet`: the sheet, 0 to 3", "sheet(-1, 0, 1) = BAD; sheet(0, 0, 1) = 1; sheet(3, 0, 1) = 1; sheet(4, 0, 1) = BAD; sheet(MAX, 0, 1) = BAD");
        boundary.holds("Promise 23", "`lane`: the element type, 0 to 3", "sheet(0, -1, 1) = BAD; sheet(0, 0, 1) = 1; sheet(0, 3, 1) = 1; sheet(0, 4, 1) = BAD; sheet(0, MIN, 1) = BAD");
        boundary.holds("Promise 23", "`n`: the number of elements, at most 24", """
            sheet(0, 0, 23) = 23; sheet(0, 0, 24) = 24; sheet(0, 0, 25) = BAD; item(0, 0, 23, 1L) = 1; item(0, 0, 24, 1L) = INDEX; sheet(0, 0, 0) = 0
            sheet(0, 0, MAX) = BAD; lift(0) = 0
            """);
        boundary.holds("Promise 23", "Returns n; BAD if sheet or lane is out of range, or n is above 24", """
            sheet(0, 0, 24) = 24; sheet(0, 1, 25) = BAD; item(0, 0, 23, 1L) = 1; sheet(4, 0, 24) = BAD; sheet(0, 4, 24) = BAD; lift(0) = 24
            """);
        boundary.holds("Promise 23", "SIZE if n is negative.", """
            sheet(0, 0, 0) = 0; sheet(0, 1, -1) = SIZE; sheet(0, 1, MIN) = SIZE; film(0, 0, 0) = 0; lift(0) = 0; sheet(0, 0, -1) = SIZE; lift(0) = NULL
            """);
    }

    private void lift() {
        boundary.holds("Promise 24", "`sheet`: the sheet, 0 to 3", """
            sheet(0, 0, 1) = 1; sheet(3, 0, 2) = 2; lift(-1) = BAD; lift(4) = BAD; lift(MIN) = BAD; lift(MAX) = BAD; lift(0) = 1; lift(3) = 2
            """);
        boundary.holds("Promise 24", "Returns the number of elements that it had; BAD if sheet is out of range", """
            sheet(0, 0, 0) = 0; lift(0) = 0; sheet(0, 3, 24) = 24; lift(0) = 24; sheet(1, 0, 5) = 5; sheet(1, 0, 3) = 3; lift(1) = 3; lift(4) = BAD; lift(-1) = BAD
            """);
        boundary.holds("Promise 24", "NULL if it is empty already.", """
            lift(0) = NULL; sheet(0, 0, 0) = 0; lift(0) = 0; lift(0) = NULL; lift(0) = NULL; sheet(0, 0, 1) = 1; lift(1) = NULL; lift(0) = 1; film(0, 0, 0) = NULL
            """);
    }

    private void item() {
        boundary.holds("Promise 25", "`sheet`: the sheet, 0 to 3", """
            sheet(0, 0, 1) = 1; sheet(3, 0, 1) = 1; item(-1, 0, 0, 1L) = BAD; item(0, 0, 0, 1L) = 1; item(3, 0, 0, 1L) = 1; item(4, 0, 0, 1L) = BAD
            """);
        boundary.holds("Promise 25", "`lane`: the expected element type, 0 to 3", """
            sheet(0, 0, 1) = 1; sheet(3, 3, 1) = 1; item(0, -1, 0, 1L) = BAD; item(0, 0, 0, 1L) = 1; item(3, 3, 0, 1L) = 1; item(3, 4, 0, 1L) = BAD
            """);
        boundary.holds("Promise 25", "`i`: the index", """
            line(0, 0) = 0; sheet(0, 0, 24) = 24; item(0, 0, -1, 1L) = INDEX; item(0, 0, 0, 1L) = 1; item(0, 0, 23, 1L) = 1; item(0, 0, 24, 1L) = INDEX
            cuts(0, 0, 0, 1) = 0; cuts(0, 0, 23, 1) = 0; cuts(0, 0, 1, 1) = NOT; cuts(0, 0, 22, 1) = NOT
            """);
        boundary.holds("Promise 25", "`v`: the new value, narrowed to the element type as by a Java cast", """
            read "AAAAAAAAAAAA" = 12; tell(3, 20) = 8; sheet(0, 0, 1) = 1; item(0, 0, 0, 268L) = 1; cuts(0, 0, 0, 1) = 0; item(0, 0, 0, -244L) = 1
            cuts(0, 0, 0, 1) = 0; item(0, 0, 0, 140L) = 1; cuts(0, 0, 0, 1) = NOT; item(0, 0, 0, -116L) = 1; cuts(0, 0, 0, 1) = NOT
            item(0, 0, 0, 9223372036854775564L) = 1; cuts(0, 0, 0, 1) = 0; item(0, 0, 0, -9223372036854775796L) = 1; cuts(0, 0, 0, 1) = 0
            """, """
            read "AAAAAAAAAAAA" = 12; tell(3, 20) = 8; sheet(0, 1, 1) = 1; item(0, 1, 0, 268L) = 1; cuts(0, 1, 0, 1) = NOT; item(0, 1, 0, 65548L) = 1
            cuts(0, 1, 0, 1) = 0; item(0, 1, 0, -65524L) = 1; cuts(0, 1, 0, 1) = 0; item(0, 1, 0, 32780L) = 1; cuts(0, 1, 0, 1) = NOT
            item(0, 1, 0, -9223372036854775796L) = 1; cuts(0, 1, 0, 1) = 0
            """, """
            read "AAAAAAAAAAAA" = 12; tell(3, 20) = 8; sheet(0, 2, 1) = 1; item(0, 2, 0, 65548L) = 1; cuts(0, 2, 0, 1) = NOT; item(0, 2, 0, 4294967308L) = 1
            cuts(0, 2, 0, 1) = 0; item(0, 2, 0, -4294967284L) = 1; cuts(0, 2, 0, 1) = 0; item(0, 2, 0, 2147483660L) = 1; cuts(0, 2, 0, 1) = NOT
            sheet(0, 3, 1) = 1; item(0, 3, 0, 4294967308L) = 1; cuts(0, 3, 0, 1) = NOT; item(0, 3, 0, -9223372036854775796L) = 1; cuts(0, 3, 0, 1) = NOT
            item(0, 3, 0, 12L) = 1; cuts(0, 3, 0, 1) = 0
            """);
        boundary.holds("Promise 25", "Returns 1; BAD if sheet or lane is out of range; NULL; CAST; INDEX.", """
            item(MIN, 0, 0, 1L) = BAD; item(MAX, 0, 0, 1L) = BAD; item(0, MIN, 0, 1L) = BAD; item(0, MAX, 0, 1L) = BAD; item(0, 0, 0, 1L) = NULL
            sheet(0, 0, 1) = 1; item(0, 1, 0, 1L) = CAST; item(0, 0, 1, 1L) = INDEX; item(0, 0, 0, 1L) = 1; sheet(0, 0, 0) = 0; item(0, 0, 0, 1L) = INDEX
            """);
    }

    private void copy() {
        boundary.holds("Promise 26", "`from`: the source sheet, 0 to 3", """
            sheet(0, 0, 1) = 1; sheet(3, 0, 1) = 1; copy(-1, 0, 0, 0, 1) = BAD; copy(0, 0, 3, 0, 1) = 1; copy(3, 0, 0, 0, 1) = 1; copy(4, 0, 0, 0, 1) = BAD
            copy(MIN, 0, 0, 0, 1) = BAD; copy(MAX, 0, 0, 0, 1) = BAD
            """);
        boundary.holds("Promise 26", "`to`: the target sheet, 0 to 3", """
            sheet(0, 0, 1) = 1; sheet(3, 0, 1) = 1; copy(0, 0, -1, 0, 1) = BAD; copy(3, 0, 0, 0, 1) = 1; copy(0, 0, 3, 0, 1) = 1; copy(0, 0, 4, 0, 1) = BAD
            copy(0, 0, MIN, 0, 1) = BAD; copy(0, 0, MAX, 0, 1) = BAD
            """);
        boundary.holds("Promise 26", "`i`: the first source index", """
            line(0, 0) = 0; sheet(0, 0, 24) = 24; sheet(1, 0, 24) = 24; item(0, 0, 0, 1L) = 1; item(0, 0, 23, 1L) = 1; copy(0, -1, 1, 0, 1) = INDEX
            copy(0, 0, 1, 5, 1) = 1; cuts(1, 0, 5, 1) = 0; copy(0, 23, 1, 6, 1) = 1; cuts(1, 0, 6, 1) = 0; copy(0, 24, 1, 7, 1) = INDEX; copy(0, 22, 1, 7, 1) = 1
            cuts(1, 0, 7, 1) = NOT
            """);
        boundary.holds("Promise 26", "`j`: the first target index", """
            line(0, 0) = 0; sheet(0, 0, 24) = 24; sheet(1, 0, 24) = 24; item(0, 0, 5, 1L) = 1; copy(0, 5, 1, -1, 1) = INDEX; copy(0, 5, 1, 0, 1) = 1
            cuts(1, 0, 0, 1) = 0; cuts(1, 0, 1, 1) = NOT; copy(0, 5, 1, 23, 1) = 1; cuts(1, 0, 23, 1) = 0; cuts(1, 0, 22, 1) = NOT; copy(0, 5, 1, 24, 1) = INDEX
            """);
        boundary.holds("Promise 26", "`n`: the number of elements", """
            sheet(0, 0, 24) = 24; sheet(1, 0, 24) = 24; copy(0, 0, 1, 0, -1) = INDEX; copy(0, 0, 1, 0, 0) = 0; copy(0, 0, 1, 0, 1) = 1; copy(0, 0, 1, 0, 24) = 24
            copy(0, 0, 1, 0, 25) = INDEX; copy(0, 0, 0, 0, 24) = 24; copy(0, 0, 0, 1, 24) = INDEX; copy(0, 0, 0, 1, 23) = 23; copy(0, 0, 1, 0, MAX) = INDEX
            """);
        boundary.holds("Promise 26", "Returns n; BAD if a sheet is out of range; NULL if one of them is empty", """
            copy(0, 0, 1, 0, 0) = NULL; sheet(0, 0, 0) = 0; copy(0, 0, 1, 0, 0) = NULL; copy(1, 0, 0, 0, 0) = NULL; sheet(1, 0, 0) = 0; copy(0, 0, 1, 0, 0) = 0
            copy(1, 0, 0, 0, 0) = 0; lift(0) = 0; copy(0, 0, 1, 0, 0) = NULL; copy(0, 0, 0, 0, 0) = NULL; copy(1, 0, 1, 0, 0) = 0; copy(1, 0, 4, 0, 0) = BAD
            """);
        boundary.holds("Promise 26", "CAST if their element types differ", """
            sheet(0, 0, 1) = 1; sheet(1, 1, 1) = 1; sheet(2, 2, 1) = 1; sheet(3, 3, 1) = 1; copy(0, 0, 1, 0, 1) = CAST; copy(1, 0, 0, 0, 1) = CAST
            copy(2, 0, 3, 0, 1) = CAST; copy(3, 0, 2, 0, 0) = CAST; copy(0, 0, 0, 0, 1) = 1; copy(3, 0, 3, 0, 1) = 1; sheet(1, 0, 1) = 1; copy(0, 0, 1, 0, 1) = 1
            """);
        boundary.holds("Promise 26", "INDEX if one of the ranges is not inside its array.", """
            sheet(0, 0, 3) = 3; sheet(1, 0, 2) = 2; copy(0, 0, 1, 0, 2) = 2; copy(0, 0, 1, 0, 3) = INDEX; copy(1, 0, 0, 0, 3) = INDEX; copy(0, 1, 1, 0, 2) = 2
            copy(0, 2, 1, 0, 2) = INDEX; copy(0, 0, 1, 1, 2) = INDEX; copy(1, 0, 0, 1, 2) = 2; copy(1, 0, 0, 2, 2) = INDEX; copy(0, 3, 1, 2, 0) = 0
            copy(0, 3, 1, 3, 0) = INDEX; copy(1, 3, 0, 3, 0) = INDEX
            """);
    }

    private void copyWithin() {
        String oneToSix = """
            read "AAAAAAAAAAAA" = 12; tell(3, 20) = 8; tell(4, 1) = 2; sheet(0, 2, 6) = 6; item(0, 2, 0, 1L) = 1; item(0, 2, 1, 2L) = 1; item(0, 2, 2, 3L) = 1
            item(0, 2, 3, 4L) = 1; item(0, 2, 4, 5L) = 1; item(0, 2, 5, 6L) = 1
            """;
        // 3, 4 and 5 are the only three neighbours that add up to twelve lines.
        boundary.holds("Promise 26", "Copies n elements from one sheet to another one, or within one sheet, as if all were read before any is written.",
            oneToSix + "cuts(0, 2, 2, 3) = 2; copy(0, 2, 0, 3, 3) = 3; cuts(0, 2, 3, 3) = 2; cuts(0, 2, 2, 3) = NOT",
            oneToSix + "copy(0, 2, 0, 1, 3) = 3; cuts(0, 2, 1, 3) = 2; cuts(0, 2, 2, 3) = NOT", oneToSix + "copy(0, 0, 0, 0, 6) = 6; cuts(0, 2, 2, 3) = 2",
            oneToSix + "copy(0, 0, 0, 1, 5) = 5; cuts(0, 2, 3, 3) = 2; copy(0, 1, 0, 0, 5) = 5; cuts(0, 2, 2, 3) = 2",
            oneToSix + "sheet(3, 2, 24) = 24; copy(0, 0, 3, 18, 6) = 6; cuts(3, 2, 20, 3) = 2; cuts(0, 2, 2, 3) = 2; cuts(3, 2, 2, 3) = NOT");
    }
}
