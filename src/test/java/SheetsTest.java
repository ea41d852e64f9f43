/** Promises 21 to 26: cuts, film, sheet, lift, item, copy. */
public final class SheetsTest {
    private static final Script SCRIPT = new Script();

    public static void main(String[] args) {
        cuts();
        cutsErrors();
        film();
        sheet();
        lift();
        item();
        copy();
        copyErrors();
        SCRIPT.end();
    }

    private static void cuts() {
        SCRIPT.run("21 cuts", """
            read "AAAA|BB" = 6; sheet(0, 2, 6) = 6; item(0, 2, 0, 6L) = 1; cuts(0, 2, 0, 1) = 0
            item(0, 2, 1, 4L) = 1; item(0, 2, 2, 2L) = 1; cuts(0, 2, 1, 2) = 0; item(0, 2, 1, 2L) = 1; cuts(0, 2, 1, 2) = NOT
            item(0, 2, 3, 2L) = 1; cuts(0, 2, 1, 3) = 1; tell(4, 1) = 2; item(0, 2, 4, 4L) = 1; cuts(0, 2, 3, 2) = 1
            """);
        SCRIPT.run("21 every cut is counted, by a distribution that need not be the one that is used", """
            read "AAA|BB" = 5; tell(4, 1) = 2; sheet(3, 0, 5) = 5; item(3, 0, 0, 1L) = 1; copy(3, 0, 3, 1, 1) = 1; copy(3, 0, 3, 2, 2) = 2
            item(3, 0, 4, 1L) = 1; cuts(3, 0, 0, 5) = 3; tell(4, 2) = 1; cuts(3, 0, 0, 5) = NONE; count(11) = 0
            """);
        SCRIPT.run("21 not allowed: too high", """
            read "AA|BB" = 4; sheet(0, 3, 2) = 2; item(0, 3, 0, 4L) = 1; tell(3, 5) = 8; cuts(0, 3, 0, 1) = 0; tell(3, 4) = 5
            cuts(0, 3, 0, 1) = NONE; item(0, 3, 0, 2L) = 1; item(0, 3, 1, 2L) = 1; cuts(0, 3, 0, 2) = 0
            """);
        SCRIPT.run("21 not allowed: KEEP, before the cut and after it", """
            read "AAAAA" = 5; sheet(0, 3, 2) = 2; item(0, 3, 0, 3L) = 1; item(0, 3, 1, 2L) = 1; cuts(0, 3, 0, 2) = 1; tell(4, 3) = 2
            cuts(0, 3, 0, 2) = NONE; item(0, 3, 0, 2L) = 1; item(0, 3, 1, 3L) = 1; cuts(0, 3, 0, 2) = NONE; tell(4, 2) = 3
            cuts(0, 3, 0, 2) = 1; item(0, 3, 0, 4L) = 1; item(0, 3, 1, 1L) = 1; cuts(0, 3, 0, 2) = NONE; tell(4, 1) = 2; cuts(0, 3, 0, 2) = 1
            """);
        SCRIPT.run("21 a line that does not fit", """
            read "A9|B" = 2; tell(0, 8) = 20; sheet(0, 0, 2) = 2; item(0, 0, 0, 2L) = 1; cuts(0, 0, 0, 1) = NONE; item(0, 0, 0, 1L) = 1
            cuts(0, 0, 0, 1) = NOT; item(0, 0, 1, 1L) = 1; cuts(0, 0, 0, 2) = NONE
            """);
        SCRIPT.run("21 twelve pages", """
            read "A|A|A|A|A|A|A|A|A|A|A|A" = 12; sheet(0, 1, 24) = 24; film(0, 1, 0) = 12; cuts(0, 1, 0, 12) = 0; cuts(0, 1, 0, 11) = NOT
            film(0, 1, 12) = 12; cuts(0, 1, 12, 12) = 0; cuts(0, 1, 13, 12) = INDEX; cuts(0, 1, 0, 13) = BAD
            """);
    }

    private static void cutsErrors() {
        SCRIPT.run("21 errors in their order", """
            cuts(-1, 0, 0, 1) = BAD; cuts(4, 0, 0, 1) = BAD; cuts(0, -1, 0, 1) = BAD; cuts(0, 4, 0, 1) = BAD; cuts(0, 0, 0, 0) = BAD
            cuts(0, 0, 0, 13) = BAD; cuts(0, 0, 0, MIN) = BAD; cuts(0, 0, -1, 1) = NULL; sheet(0, 1, 3) = 3; cuts(0, 0, -1, 1) = CAST
            cuts(0, 0, -1, 0) = BAD; cuts(0, 1, -1, 1) = INDEX; cuts(0, 1, 0, 4) = INDEX; cuts(0, 1, 3, 1) = INDEX; cuts(0, 1, MAX, 12) = INDEX
            cuts(0, 1, MIN, 1) = INDEX; cuts(0, 1, 0, 1) = NOT; cuts(0, 1, 2, 1) = NOT; count(12) = 0
            """);
        SCRIPT.run("21 elements that are not 1 to 12", """
            read "A|A" = 2; sheet(0, 3, 3) = 3; item(0, 3, 0, 0L) = 1; item(0, 3, 1, 2L) = 1; cuts(0, 3, 0, 2) = NOT; cuts(0, 3, 1, 1) = 0
            item(0, 3, 0, 13L) = 1; item(0, 3, 1, -11L) = 1; cuts(0, 3, 0, 2) = NOT; item(0, 3, 0, 3L) = 1; item(0, 3, 1, -1L) = 1
            cuts(0, 3, 0, 2) = NOT; item(0, 3, 0, 4294967298L) = 1; cuts(0, 3, 0, 1) = NOT; item(0, 3, 0, -4294967294L) = 1
            cuts(0, 3, 0, 1) = NOT; item(0, 3, 0, 3L) = 1; cuts(0, 3, 0, 1) = NOT; item(0, 3, 0, 1L) = 1; cuts(0, 3, 0, 1) = NOT
            item(0, 3, 0, 2L) = 1; cuts(0, 3, 0, 1) = 0
            """);
        SCRIPT.run("21 NOT comes before NONE", """
            read "A9" = 1; tell(0, 6) = 20; sheet(0, 3, 3) = 3; cuts(0, 3, 0, 1) = NOT; item(0, 3, 0, 1L) = 1; cuts(0, 3, 0, 1) = NONE
            cuts(0, 3, 0, 2) = NOT
            """);
    }

    private static void film() {
        // The rows 2, 1 and 3 are read back as pages of a poem with six lines.
        SCRIPT.run("22 the rows of the lines", """
            read "A9 9 9|B|C9 9 9 9 9" = 3; of(0, 5) = 2; of(1, 5) = 1; of(2, 5) = 4; tell(2, 1) = 4; of(2, 5) = 3; sheet(0, 0, 6) = 6
            film(0, 0, 2) = 3; read "A|A|A|A|A|A" = 6; cuts(0, 0, 2, 3) = 0; cuts(0, 0, 1, 4) = NOT; cuts(0, 0, 2, 4) = NOT
            cuts(0, 0, 3, 2) = NOT; line(0, 1) = 6; cuts(0, 0, 2, 3) = NOT; drop() = 6; drop() = 5; cuts(0, 0, 2, 3) = NOT
            drop() = 4; cuts(0, 0, 3, 2) = 0; count(12) = 6
            """);
        SCRIPT.run("22 a line that does not fit", """
            read "A|B9" = 2; tell(0, 8) = 20; sheet(0, 1, 4) = 4; item(0, 1, 1, 2L) = 1; film(0, 1, 0) = 2; drop() = 1; cuts(0, 1, 0, 1) = 0
            cuts(0, 1, 1, 1) = NOT; line(0, 1) = 1; cuts(0, 1, 1, 1) = NOT
            """);
        SCRIPT.run("22 errors in their order", """
            film(-1, 0, 0) = BAD; film(4, 0, 0) = BAD; film(0, -1, 0) = BAD; film(0, 4, 0) = BAD; film(0, 0, -1) = NULL; sheet(0, 2, 2) = 2
            film(0, 1, -1) = CAST; film(0, 2, -1) = INDEX; film(0, 2, 3) = INDEX; film(0, 2, MAX) = INDEX; film(0, 2, MIN) = INDEX
            film(0, 2, 0) = 0; film(0, 2, 2) = 0; line(0, 0) = 0; film(0, 2, 2) = INDEX; film(0, 2, 1) = 1; line(0, 0) = 1; film(0, 2, 1) = INDEX
            film(0, 2, 0) = 2; line(0, 0) = 2; film(0, 2, 0) = INDEX; film(0, 2, MAX) = INDEX; count(12) = 3
            """);
        SCRIPT.run("22 nothing is stored if the range is not inside", """
            sheet(0, 2, 2) = 2; read "A|A" = 2; film(0, 2, 1) = INDEX; drop() = 1; cuts(0, 2, 1, 1) = NOT; film(0, 2, 1) = 1; cuts(0, 2, 1, 1) = 0
            """);
    }

    private static void sheet() {
        SCRIPT.run("23 sizes and lanes", """
            sheet(0, 0, 24) = 24; sheet(1, 1, 1) = 1; sheet(2, 2, 0) = 0; sheet(3, 3, 7) = 7; lift(0) = 24; lift(1) = 1; lift(2) = 0
            lift(3) = 7; sheet(0, 3, 5) = 5; sheet(0, 1, 6) = 6; item(0, 3, 0, 1L) = CAST; item(0, 1, 5, 1L) = 1; lift(0) = 6; count(12) = 0
            """);
        SCRIPT.run("23 new zeros in place of what was there", """
            line(0, 0) = 0; sheet(0, 2, 3) = 3; item(0, 2, 2, 1L) = 1; cuts(0, 2, 2, 1) = 0; sheet(0, 2, 3) = 3; cuts(0, 2, 2, 1) = NOT
            item(0, 2, 2, 1L) = 1; lift(0) = 3; sheet(0, 2, 4) = 4; cuts(0, 2, 2, 1) = NOT; item(0, 2, 3, 1L) = 1; sheet(0, 3, 2) = 2
            sheet(0, 2, 4) = 4; cuts(0, 2, 3, 1) = NOT
            """);
        SCRIPT.run("23 errors in their order", """
            sheet(-1, 0, 1) = BAD; sheet(4, 0, 1) = BAD; sheet(0, -1, 1) = BAD; sheet(0, 4, 1) = BAD; sheet(0, 0, 25) = BAD
            sheet(0, 0, MAX) = BAD; sheet(0, 0, -1) = SIZE; sheet(0, 0, MIN) = SIZE; sheet(4, 0, -1) = BAD; sheet(0, 4, -1) = BAD
            lift(0) = NULL; sheet(0, 1, 2) = 2; sheet(0, 0, -1) = SIZE; sheet(0, 0, 25) = BAD; item(0, 1, 1, 1L) = 1; lift(0) = 2
            """);
    }

    private static void lift() {
        SCRIPT.run("24", """
            lift(-1) = BAD; lift(4) = BAD; lift(MIN) = BAD; lift(MAX) = BAD; lift(3) = NULL; sheet(3, 1, 9) = 9; sheet(2, 1, 8) = 8; lift(3) = 9
            lift(3) = NULL; item(3, 1, 0, 1L) = NULL; film(3, 1, 0) = NULL; cuts(3, 1, 0, 1) = NULL; copy(3, 0, 2, 0, 0) = NULL
            copy(2, 0, 3, 0, 0) = NULL; lift(2) = 8
            """);
    }

    private static void item() {
        SCRIPT.run("25 narrowed to the element type", """
            line(0, 0) = 0; sheet(0, 0, 1) = 1; item(0, 0, 0, 257L) = 1; cuts(0, 0, 0, 1) = 0; item(0, 0, 0, -255L) = 1; cuts(0, 0, 0, 1) = 0
            item(0, 0, 0, 129L) = 1; cuts(0, 0, 0, 1) = NOT; item(0, 0, 0, 256L) = 1; cuts(0, 0, 0, 1) = NOT
            sheet(0, 1, 1) = 1; item(0, 1, 0, 257L) = 1; cuts(0, 1, 0, 1) = NOT; item(0, 1, 0, 65537L) = 1; cuts(0, 1, 0, 1) = 0
            sheet(0, 2, 1) = 1; item(0, 2, 0, 65537L) = 1; cuts(0, 2, 0, 1) = NOT; item(0, 2, 0, 4294967297L) = 1; cuts(0, 2, 0, 1) = 0
            item(0, 2, 0, -4294967295L) = 1; cuts(0, 2, 0, 1) = 0
            sheet(0, 3, 1) = 1; item(0, 3, 0, 4294967297L) = 1; cuts(0, 3, 0, 1) = NOT; item(0, 3, 0, 9223372036854775807L) = 1
            cuts(0, 3, 0, 1) = NOT; item(0, 3, 0, 1L) = 1; cuts(0, 3, 0, 1) = 0
            """);
        SCRIPT.run("25 errors in their order", """
            item(-1, 0, 0, 1L) = BAD; item(4, 0, 0, 1L) = BAD; item(0, -1, 0, 1L) = BAD; item(0, 4, 0, 1L) = BAD; item(0, 0, -1, 1L) = NULL
            sheet(0, 0, 2) = 2; item(0, 1, -1, 1L) = CAST; item(0, 0, -1, 1L) = INDEX; item(0, 0, 2, 1L) = INDEX; item(0, 0, MAX, 1L) = INDEX
            item(0, 0, MIN, 1L) = INDEX; item(0, 0, 1, 1L) = 1; item(0, 0, 0, 1L) = 1; sheet(1, 3, 0) = 0; item(1, 3, 0, 1L) = INDEX; count(12) = 0
            """);
    }

    /** A sheet with the elements 1, 2, 3, 4, 5, 6, and a stanza of twelve lines that may be cut everywhere. */
    private static final String ONE_TO_SIX = """
            read "AAAAAAAAAAAA" = 12; tell(3, 20) = 8; tell(4, 1) = 2; sheet(0, 2, 6) = 6; item(0, 2, 0, 1L) = 1; item(0, 2, 1, 2L) = 1
            item(0, 2, 2, 3L) = 1; item(0, 2, 3, 4L) = 1; item(0, 2, 4, 5L) = 1; item(0, 2, 5, 6L) = 1
            """;

    private static void copy() {
        // The sums tell what was copied: of three neighbours, only 3, 4, 5 add up to twelve lines.
        SCRIPT.run("26 within one sheet, upwards", ONE_TO_SIX + """
            cuts(0, 2, 2, 3) = 2; cuts(0, 2, 3, 3) = NOT; copy(0, 2, 0, 3, 3) = 3; cuts(0, 2, 3, 3) = 2; cuts(0, 2, 2, 3) = NOT; cuts(0, 2, 2, 1) = NOT
            copy(0, 3, 0, 0, 3) = 3; cuts(0, 2, 0, 3) = 2; cuts(0, 2, 3, 3) = 2
            """);
        SCRIPT.run("26 within one sheet, downwards", ONE_TO_SIX + """
            copy(0, 2, 0, 1, 3) = 3; cuts(0, 2, 1, 3) = 2; cuts(0, 2, 2, 3) = NOT; item(0, 2, 0, 12L) = 1; copy(0, 0, 0, 5, 1) = 1; cuts(0, 2, 5, 1) = 0
            """);
        SCRIPT.run("26 to another sheet", ONE_TO_SIX + """
            sheet(3, 2, 4) = 4; copy(0, 2, 3, 1, 3) = 3; cuts(3, 2, 1, 3) = 2; cuts(3, 2, 0, 3) = NOT; cuts(0, 2, 2, 3) = 2; item(3, 2, 1, 12L) = 1
            cuts(0, 2, 2, 3) = 2; cuts(3, 2, 1, 1) = 0; copy(3, 1, 0, 0, 1) = 1; cuts(0, 2, 0, 1) = 0
            """);
        SCRIPT.run("26 nothing, and all", """
            sheet(0, 1, 3) = 3; sheet(1, 1, 0) = 0; copy(0, 3, 1, 0, 0) = 0; copy(1, 0, 0, 3, 0) = 0; copy(1, 0, 1, 0, 0) = 0; copy(0, 0, 0, 0, 3) = 3
            copy(0, 4, 1, 0, 0) = INDEX; copy(0, 0, 1, 1, 0) = INDEX; copy(0, -1, 1, 0, 0) = INDEX; copy(0, 0, 1, -1, 0) = INDEX; count(12) = 0
            """);
    }

    private static void copyErrors() {
        SCRIPT.run("26 errors in their order", """
            copy(-1, 0, 0, 0, 0) = BAD; copy(4, 0, 0, 0, 0) = BAD; copy(0, 0, -1, 0, 0) = BAD; copy(0, 0, 4, 0, 0) = BAD; copy(0, -1, 1, -1, -1) = NULL
            sheet(0, 0, 3) = 3; copy(0, -1, 1, -1, -1) = NULL; copy(1, 0, 0, 0, 1) = NULL; copy(0, 0, 5, 0, 1) = BAD; sheet(1, 1, 3) = 3
            copy(0, -1, 1, -1, -1) = CAST; copy(1, 9, 0, 9, 9) = CAST; sheet(1, 0, 2) = 2; copy(0, 0, 1, 0, 3) = INDEX; copy(1, 0, 0, 0, 3) = INDEX
            copy(0, 0, 1, 0, -1) = INDEX; copy(0, -1, 1, 0, 1) = INDEX; copy(0, 0, 1, -1, 1) = INDEX; copy(0, 2, 1, 0, 2) = INDEX
            copy(0, 0, 1, 1, 2) = INDEX; copy(0, MAX, 1, 0, 2) = INDEX; copy(0, 1, 1, 0, MAX) = INDEX; copy(0, 0, 1, MAX, MAX) = INDEX
            copy(0, MIN, 1, MIN, MIN) = INDEX; copy(0, 1, 1, 0, 2) = 2; copy(0, 0, 1, 1, 1) = 1
            """);
    }
}
