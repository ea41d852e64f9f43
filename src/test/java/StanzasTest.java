/** Promises 11 and 13: stanza and whole. */
public final class StanzasTest {
    private static final Script SCRIPT = new Script();

    public static void main(String[] args) {
        stanzas();
        shapes();
        odds();
        manyLines();
        errors();
        SCRIPT.end();
    }

    private static void stanzas() {
        SCRIPT.run("11 first line, lines, rhymes", """
            read "ABAB|C|DDAC" = 9; stanza(0, 0) = 0; stanza(1, 0) = 4; stanza(2, 0) = 5; stanza(0, 1) = 4; stanza(1, 1) = 1
            stanza(2, 1) = 4; stanza(0, 2) = 2; stanza(1, 2) = 1; stanza(2, 2) = 3; stanza(3, 0) = BAD
            rhyme(1, 2) = 1; stanza(0, 2) = 3; drop() = 8; stanza(2, 1) = 3; stanza(2, 2) = 2
            """);
    }

    private static void shapes() {
        SCRIPT.run("11 shape and the first like it", """
            read "BCBC|ADAD|BCD|B" = 12; stanza(0, 3) = 101; stanza(1, 3) = 101; stanza(2, 3) = 12; stanza(3, 3) = 0
            stanza(0, 4) = 0; stanza(1, 4) = 0; stanza(2, 4) = 2; stanza(3, 4) = 3; rhyme(4, 3) = 0
            stanza(1, 3) = 10; stanza(1, 4) = 1
            """);
        SCRIPT.run("11 the same shape, but another number of lines", """
            read "A|AA|B|CC|BBB|DD" = 11; stanza(0, 3) = 0; stanza(1, 3) = 0; stanza(4, 3) = 0; stanza(0, 4) = 0; stanza(1, 4) = 1
            stanza(2, 4) = 0; stanza(3, 4) = 1; stanza(4, 4) = 4; stanza(5, 4) = 1
            """);
        SCRIPT.run("11 a shape that no int can hold", """
            read "ABCDDDDDDDDD" = 12; stanza(0, 3) = 12333333333L; read "ABCDCBADCBAD" = 12; stanza(0, 3) = 12321032103L
            """);
        SCRIPT.run("11 the shape does not depend on the SCHEME", """
            read "ABA" = 3; tell(6, 0) = 1; stanza(0, 3) = 10; tell(6, 2) = 0; stanza(0, 3) = 10; tell(1, 0) = 2; stanza(0, 3) = 10
            """);
    }

    private static void odds() {
        SCRIPT.run("13 without lines", """
            whole(0, 0) = 1; whole(0, 1) = 1; whole(3, 0) = 1; whole(3, 1) = 1; whole(10, 0) = 1; whole(10, 1) = 1
            """);
        SCRIPT.run("13 nothing is left out, or everything", """
            read "AAA" = 3; whole(0, 0) = 1; whole(0, 1) = 1; tell(3, 2) = 8; whole(0, 0) = 0; whole(0, 1) = 1
            whole(10, 0) = 1; whole(10, 1) = 1
            """);
        // Of three lines at least one must be left out: 1 - 0.7^3, 1 - 0.9^3, 1 - 0.2^3.
        SCRIPT.run("13 lowest terms", """
            read "AAA" = 3; tell(3, 2) = 8; whole(3, 0) = 657; whole(3, 1) = 1000; whole(1, 0) = 271; whole(1, 1) = 1000
            whole(8, 0) = 124; whole(8, 1) = 125; whole(5, 0) = 7; whole(5, 1) = 8
            """);
        SCRIPT.run("13 stanzas are independent, and need not share a page", """
            read "AAA|BBB|C|D" = 8; tell(3, 2) = 8; whole(5, 0) = 49; whole(5, 1) = 64; tell(3, 3) = 2; whole(5, 0) = 1; whole(5, 1) = 1
            """);
        SCRIPT.run("13 KEEP does not matter", """
            read "AAA" = 3; tell(3, 2) = 8; tell(4, 1) = 2; whole(5, 0) = 7; tell(4, 3) = 1; whole(5, 0) = 7; whole(5, 1) = 8
            """);
        // Rows 2, 1 and 1 with the HEIGHT 3, then 2: too high are all three; then also the first with another.
        SCRIPT.run("13 rows of a layout", """
            read "A9 9 9AA" = 3; tell(3, 3) = 8; whole(5, 0) = 7; whole(5, 1) = 8; tell(3, 2) = 3; whole(5, 0) = 5; whole(5, 1) = 8
            whole(2, 0) = 29; whole(2, 1) = 125
            """);
        SCRIPT.run("13 a line with more rows than the HEIGHT must be left out", """
            read "A9 9 9 9" = 1; tell(0, 14) = 20; tell(3, 3) = 8; whole(3, 0) = 3; whole(3, 1) = 10; whole(0, 0) = 0; whole(0, 1) = 1
            """);
        // If line 0 were gone, the rhyme of line 1 would have the rank 0, and its words would need one row less.
        SCRIPT.run("13 the rows of the other lines stay as they are with all lines", """
            read "AB9 9AB9 9" = 4; of(1, 5) = 2; of(3, 5) = 2; tell(3, 5) = 8; whole(5, 0) = 15; whole(5, 1) = 16
            """);
        SCRIPT.run("13 lines stay in their stanzas, also if its first line is left out", """
            read "AAA|BBB" = 6; tell(3, 2) = 8; whole(9, 0) = 998001; whole(9, 1) = 1000000
            """);
        // Eleven lines of two rows are too high for the HEIGHT 20 only if none is left out.
        SCRIPT.run("13 the greatest HEIGHT", """
            read "A999A999A999A999A999A999A999A999A999A999A999" = 11; of(10, 5) = 2; tell(3, 20) = 8; whole(5, 0) = 2047; whole(5, 1) = 2048
            """);
        SCRIPT.run("13 a line that does not fit", """
            read "A1|B9" = 2; tell(0, 8) = 20; whole(5, 0) = 0; whole(5, 1) = 1; whole(10, 0) = 0; whole(10, 1) = 1; whole(0, 0) = 0
            whole(0, 1) = 1; whole(11, 0) = BAD; whole(5, 2) = BAD
            """);
    }

    private static void manyLines() {
        // Twelve lines of one row in one stanza, of which more than eleven are left with 0.9^12 (0.7^12).
        SCRIPT.run("13 twelve lines", """
            read "AAAAAAAAAAAA" = 12; tell(3, 11) = 8; whole(1, 0) = 717570463519L; whole(1, 1) = 1000000000000L
            whole(3, 0) = 986158712799L; whole(3, 1) = 1000000000000L; tell(3, 12) = 11; whole(3, 0) = 1; whole(3, 1) = 1
            whole(0, 0) = 1; tell(3, 11) = 12; whole(0, 0) = 0; whole(0, 1) = 1; whole(5, 0) = 4095; whole(5, 1) = 4096
            """);
    }

    private static void errors() {
        SCRIPT.run("11 wrong arguments", """
            stanza(0, 0) = BAD; line(0, 0) = 0; stanza(1, 0) = BAD; stanza(-1, 0) = BAD; stanza(0, -1) = BAD; stanza(0, 5) = BAD
            stanza(1, 5) = BAD; stanza(MIN, 0) = BAD; stanza(MAX, 0) = BAD; stanza(0, MIN) = BAD; count(12) = 1
            """);
        SCRIPT.run("13 wrong arguments", """
            whole(-1, 0) = BAD; whole(11, 0) = BAD; whole(0, -1) = BAD; whole(0, 2) = BAD; whole(MIN, MAX) = BAD; whole(MAX, 1) = BAD
            count(12) = 0
            """);
    }
}
