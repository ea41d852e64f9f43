/** Promises 9 and 10: count and page, and the page of a line (promise 7). */
public final class PagesTest {
    private static final Script SCRIPT = new Script();

    public static void main(String[] args) {
        counts();
        heights();
        keeping();
        fewest();
        ties();
        none();
        errors();
        SCRIPT.end();
    }

    private static void counts() {
        SCRIPT.run("9 lines, stanzas, recorded actions", """
            line(0, 0) = 0; count(7) = 1; count(8) = 1; count(12) = 1; line(0, 0) = 1; count(8) = 1; line(0, 1) = 2
            count(8) = 2; line(0, 1) = 3; count(7) = 4; count(8) = 3; count(12) = 4; word(1, 0) = 1; word(1, 0) = 2; word(1, 0) = 3
            count(12) = 6
            """);
        SCRIPT.run("9 wrong arguments", """
            count(-1) = BAD; count(13) = BAD; count(MIN) = BAD; count(MAX) = BAD; count(12) = 0
            """);
        SCRIPT.run("9 without lines", "count(10) = 0; count(11) = 0; count(9) = 0; count(8) = 0; page(0, 0) = BAD");
    }

    private static void heights() {
        SCRIPT.run("10 an empty row between lines of different stanzas", """
            read "AB|CD" = 4; count(10) = 1; page(0, 0) = 0; page(0, 1) = 4; page(0, 2) = 5; tell(3, 5) = 8; count(10) = 1
            tell(3, 4) = 5; count(10) = 2; count(11) = 0; page(0, 1) = 2; page(0, 2) = 2; page(1, 0) = 2; page(1, 1) = 2; page(1, 2) = 2
            of(1, 7) = 0; of(2, 7) = 1; page(2, 0) = BAD
            """);
        SCRIPT.run("10 all rows of the lines", """
            read "A9 9 9|B9 9 9|C" = 3; count(10) = 1; page(0, 2) = 7; tell(3, 6) = 8; count(10) = 2; page(0, 1) = 2; page(0, 2) = 5
            page(1, 0) = 2; page(1, 1) = 1; page(1, 2) = 1; tell(3, 4) = 6; count(10) = 2; page(0, 1) = 1; page(0, 2) = 2; page(1, 2) = 4
            of(0, 7) = 0; of(1, 7) = 1; of(2, 7) = 1
            """);
        SCRIPT.run("10 stanzas of one line", """
            read "A|A|A|A|A|A|A|A|A|A|A|A" = 12; tell(3, 2) = 8; count(10) = 12; count(11) = 0; of(11, 7) = 11; page(11, 2) = 1
            page(11, 0) = 11; page(12, 0) = BAD; tell(3, 20) = 2; count(10) = 2; page(0, 1) = 10; page(0, 2) = 19; page(1, 1) = 2
            """);
    }

    private static void keeping() {
        SCRIPT.run("9 at least KEEP lines before a cut, and after it", """
            read "AAAA" = 4; tell(3, 3) = 8; count(10) = 2; count(11) = 1; page(0, 1) = 2; page(1, 1) = 2
            tell(4, 1) = 2; page(0, 1) = 3; page(1, 1) = 1; tell(4, 3) = 1; count(10) = NONE; count(11) = NONE
            """);
        SCRIPT.run("9 the lines after a cut may be on several pages, those before it must be on the page before it", """
            read "AAAAAA" = 6; tell(3, 2) = 8; count(10) = 3; count(11) = 2; tell(4, 3) = 2; count(10) = NONE
            tell(4, 1) = 3; count(10) = 3; read "AAAAAAAAA" = 9; tell(4, 3) = 1; tell(3, 3) = 2; count(10) = 3; count(11) = 2
            read "AAAAAAAA" = 8; count(10) = NONE; tell(3, 5) = 3; count(10) = 2; page(0, 1) = 5; page(1, 1) = 3
            """);
        SCRIPT.run("9 only lines of the stanza that is cut are counted", """
            read "AA|BBBB" = 6; tell(4, 2) = NOT; tell(3, 4) = 8; count(10) = 2; count(11) = 0; page(0, 1) = 2
            read "AA|BBBBB" = 7; tell(3, 4) = NOT; count(10) = 3; count(11) = 1; page(0, 1) = 2; page(1, 1) = 3; page(2, 1) = 2
            tell(4, 1) = 2; count(10) = 2; count(11) = 1; page(0, 1) = 3; page(0, 2) = 4; page(1, 1) = 4
            """);
        SCRIPT.run("9 KEEP does not matter where nothing is cut", """
            read "A|B" = 2; tell(4, 3) = 2; tell(3, 2) = 8; count(10) = 2; count(11) = 0
            """);
    }

    private static void fewest() {
        SCRIPT.run("9 fewer cuts come before fewer pages", """
            read "A|BBB|CCC" = 7; tell(4, 1) = 2; tell(3, 4) = 8; count(11) = 0; count(10) = 3; page(0, 1) = 1; page(1, 1) = 3; page(2, 1) = 3
            """);
        SCRIPT.run("9 cuts where they must be", """
            read "AAA|BBB" = 6; tell(4, 1) = 2; tell(3, 2) = 8; count(11) = 2; count(10) = 4
            page(0, 1) = 2; page(1, 1) = 1; page(2, 1) = 2; page(3, 1) = 1; of(2, 7) = 1; of(3, 7) = 2
            tell(3, 3) = 2; count(11) = 0; count(10) = 2
            """);
    }

    private static void ties() {
        SCRIPT.run("10 the most lines on the first page", """
            read "A|B|C|D|A" = 5; tell(3, 5) = 8; count(10) = 2; page(0, 1) = 3; page(1, 1) = 2; page(1, 0) = 3
            """);
        SCRIPT.run("10 then on the second one", """
            read "A|B|C|D|A|B|C|D" = 8; tell(3, 5) = 8; count(10) = 3; page(0, 1) = 3; page(1, 1) = 3; page(2, 1) = 2; page(2, 0) = 6
            """);
        SCRIPT.run("10 the most lines, not the most rows", """
            read "A|A|A9 9 9" = 3; tell(3, 4) = 8; count(10) = 2; page(0, 1) = 2; page(0, 2) = 3; page(1, 2) = 2
            """);
    }

    private static void none() {
        SCRIPT.run("9 and 10 a line that does not fit", """
            read "A1|B9" = 2; tell(0, 8) = 20; count(10) = NONE; count(11) = NONE; of(0, 7) = NONE; of(1, 7) = NONE
            page(0, 0) = BAD; page(0, 2) = BAD; of(0, 5) = 1; drop() = 1; count(10) = 1; of(0, 7) = 0
            """);
        SCRIPT.run("9 and 10 a line with more rows than the HEIGHT", """
            read "A9 9 9 9" = 1; tell(0, 14) = 20; of(0, 5) = 4; tell(3, 4) = 8; count(10) = 1; tell(3, 3) = 4
            count(10) = NONE; count(11) = NONE; of(0, 7) = NONE; page(0, 1) = BAD; of(0, 5) = 4; count(9) = 3
            """);
    }

    private static void errors() {
        SCRIPT.run("10 wrong arguments", """
            page(0, 0) = BAD; read "A" = 1; page(0, 0) = 0; page(0, 1) = 1; page(0, 2) = 1; page(0, 3) = BAD; page(0, -1) = BAD
            page(1, 0) = BAD; page(-1, 0) = BAD; page(MIN, 0) = BAD; page(MAX, 0) = BAD; page(0, MAX) = BAD; page(1, 3) = BAD
            count(12) = 1
            """);
    }
}
