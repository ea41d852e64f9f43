/** The boundaries that "Pages" and promises 9 and 10 name. */
final class PageBoundaries {
    private final Boundary boundary;

    PageBoundaries(Boundary boundary) {
        this.boundary = boundary;
    }

    void all() {
        pages();
        heights();
        keeping();
        choice();
        none();
        count();
        page();
    }

    private void pages() {
        boundary.holds("Pages", "The lines are distributed to pages in their order, at least one line to each page.", """
            line(0, 0) = 0; count(10) = 1; page(0, 1) = 1; page(1, 1) = BAD; line(0, 0) = 1; count(10) = 1; page(0, 1) = 2
            """, """
            read "A|A|A|A|A|A|A|A|A|A|A|A" = 12; tell(3, 2) = 8; count(10) = 12; page(0, 0) = 0; page(0, 1) = 1; page(11, 0) = 11; page(11, 1) = 1
            page(12, 0) = BAD; tell(3, 3) = 2; count(10) = 6; page(5, 0) = 10; page(5, 1) = 2; page(6, 0) = BAD
            """);
        boundary.holds("Pages", "A page contains all rows of its lines, and one empty row between two lines on it that belong to different stanzas", """
            read "A|A" = 2; tell(3, 3) = 8; count(10) = 1; page(0, 2) = 3; tell(3, 2) = 3; count(10) = 2; page(0, 2) = 1; page(1, 2) = 1
            """, """
            read "AA" = 2; page(0, 2) = 2; read "A999A" = 2; page(0, 2) = 3; read "A999|A" = 2; page(0, 2) = 4; read "A|A|A|A" = 4; page(0, 2) = 7
            """);
    }

    private void heights() {
        boundary.holds("Pages", "it must not have more than HEIGHT rows (empty ones included)", """
            read "AA" = 2; tell(4, 1) = 2; tell(3, 2) = 8; count(10) = 1; line(0, 0) = 2; count(10) = 2; page(0, 1) = 2; page(0, 2) = 2
            tell(3, 3) = 2; count(10) = 1; page(0, 2) = 3
            """, """
            read "A|A" = 2; tell(3, 3) = 8; count(10) = 1; read "A|AA" = 3; count(10) = 2; tell(3, 4) = 3; count(10) = 1
            """, """
            read "A999A999A999A999A999A999A999A999A999A999" = 10; tell(3, 20) = 8; count(10) = 1; page(0, 2) = 20; line(0, 0) = 10
            count(10) = 2; count(11) = 1; page(0, 1) = 9; page(0, 2) = 18; page(1, 2) = 3
            """, """
            read "A666666" = 1; tell(0, 6) = 20; tell(2, 0) = 4; tell(3, 6) = 8; count(10) = 1; page(0, 2) = 6; tell(3, 5) = 6; count(10) = NONE
            """, """
            read "A|A|A|A|A|A|A|A|A|A" = 10; tell(3, 19) = 8; count(10) = 1; page(0, 2) = 19; line(0, 0) = 10; count(10) = 2; tell(3, 20) = 19
            count(10) = 1; page(0, 2) = 20
            """);
    }

    /** Lines and settings, and sheet 0 with numbers of lines on pages. */
    private static String sheet(String text, int keep, int height, int... sizes) {
        int lines = text.replaceAll("[^A-D]", "").length();
        StringBuilder all = new StringBuilder("tell(4, 1) = 2; tell(3, 2) = 8; read \"" + text + "\" = " + lines);
        if (keep != 1) {
            all.append("; tell(4, ").append(keep).append(") = 1");
        }
        if (height != 2) {
            all.append("; tell(3, ").append(height).append(") = 2");
        }
        all.append("; sheet(0, 0, ").append(sizes.length).append(") = ").append(sizes.length);
        for (int p = 0; p < sizes.length; p++) {
            all.append("; item(0, 0, ").append(p).append(", ").append(sizes[p]).append("L) = 1");
        }
        return all.append("; cuts(0, 0, 0, ").append(sizes.length).append(") = ").toString();
    }

    private void keeping() {
        boundary.holds("Pages", "A stanza is cut between two of its lines if they are consecutive and on different pages.",
            sheet("AA|BB", 2, 5, 4) + 0, sheet("AA|BB", 2, 5, 2, 2) + 0, sheet("AAAA", 2, 5, 2, 2) + 1, sheet("AAAAAA", 2, 5, 2, 2, 2) + 2,
            sheet("AAA", 1, 5, 1, 1, 1) + 2, sheet("A|A|A", 1, 5, 1, 1, 1) + 0, sheet("AAAAAAAAAAAA", 1, 2, 1, 1, 1, 1, 1, 1, 1, 1, 1, 1, 1, 1) + 11,
            "line(0, 0) = 0; count(11) = 0; line(0, 0) = 1; count(11) = 0",
            "read \"AAAAAA\" = 6; tell(3, 2) = 8; count(11) = 2; tell(3, 6) = 2; count(11) = 0; tell(3, 5) = 6; count(11) = 1");
        boundary.holds("Pages", "This is allowed only if at least KEEP of its lines are on the page before the cut",
            sheet("AAAAAA", 3, 5, 3, 3) + 1, sheet("AAAAAA", 3, 5, 2, 4) + "NONE", sheet("AAAAA", 2, 5, 2, 3) + 1, sheet("AAAAA", 2, 5, 1, 4) + "NONE",
            sheet("AAAAA", 1, 5, 1, 4) + 1,
            // Only the page directly before the cut counts, and on it only the lines of the stanza that is cut.
            sheet("AAAAA", 2, 5, 2, 1, 2) + "NONE", sheet("AAAAA", 1, 5, 2, 1, 2) + 2, sheet("A|BBB", 2, 5, 2, 2) + "NONE", sheet("A|BBB", 1, 5, 2, 2) + 1,
            sheet("A|BBBB", 2, 5, 3, 2) + 1, sheet("A|BBBBBB", 3, 5, 4, 3) + 1, sheet("A|BBBBBB", 3, 5, 3, 4) + "NONE");
        boundary.holds("Pages", "and at least KEEP of its lines follow after the cut (on any pages).",
            sheet("AAAAAA", 3, 5, 4, 2) + "NONE", sheet("AAAAA", 2, 5, 3, 2) + 1, sheet("AAAAA", 2, 5, 4, 1) + "NONE", sheet("AAAAA", 1, 5, 4, 1) + 1,
            sheet("AAAAAA", 2, 2, 2, 2, 2) + 2, sheet("AAAAAAAAA", 3, 3, 3, 3, 3) + 2,
            // Lines of the next stanza do not count.
            sheet("BBB|A", 2, 5, 2, 2) + "NONE", sheet("BBB|A", 1, 5, 2, 2) + 1, sheet("BBBB|A", 2, 5, 2, 3) + 1);
        // The same by the distribution that is used, not by one on a sheet.
        boundary.holds("Pages", "at least KEEP of its lines are on the page before the cut, and at least KEEP of its lines follow after the cut", """
            read "AAA" = 3; tell(3, 2) = 8; count(10) = NONE; tell(4, 1) = 2; count(10) = 2; page(0, 1) = 2; page(1, 1) = 1
            """, """
            read "AAAAA" = 5; tell(3, 4) = 8; count(10) = 2; page(0, 1) = 3; tell(4, 1) = 2; page(0, 1) = 4; tell(4, 3) = 1; count(10) = NONE
            line(0, 0) = 5; count(10) = 2; page(0, 1) = 3; page(1, 1) = 3
            """);
    }

    private void choice() {
        boundary.holds("Pages", "The distribution that is used is the one with the fewest cuts", """
            read "AA|BBB|CC" = 7; tell(4, 1) = 2; tell(3, 5) = 8; count(11) = 0; count(10) = 3; sheet(0, 0, 2) = 2
            item(0, 0, 0, 4L) = 1; item(0, 0, 1, 3L) = 1; cuts(0, 0, 0, 2) = 1
            """);
        boundary.holds("Pages", "of several the one with the fewest pages", """
            read "A|A|A" = 3; tell(3, 5) = 8; count(10) = 1; tell(3, 4) = 5; count(10) = 2; tell(3, 2) = 4; count(10) = 3
            """, """
            read "AAAAAA" = 6; tell(4, 1) = 2; tell(3, 5) = 8; count(10) = 2; count(11) = 1; page(0, 1) = 5
            """);
        boundary.holds("Pages", "of these the one with the most lines on the first page", """
            read "A|A|A|A|A" = 5; tell(3, 5) = 8; count(10) = 2; page(0, 1) = 3; page(1, 1) = 2
            """, """
            read "AAAAA" = 5; tell(3, 4) = 8; count(10) = 2; page(0, 1) = 3; page(1, 1) = 2
            """);
        boundary.holds("Pages", "then with the most lines on the second one, and so on", """
            read "AAA|B|C|D" = 6; tell(3, 3) = 8; count(10) = 3; page(0, 1) = 3; page(1, 1) = 2; page(2, 1) = 1
            """, """
            read "AAA|BBB|C|D|A" = 9; tell(3, 3) = 8; count(10) = 4; page(1, 1) = 3; page(2, 1) = 2; page(3, 1) = 1
            """, """
            read "AAA|BBB|CCC|D|A|B" = 12; tell(3, 3) = 8; count(10) = 5; page(2, 1) = 3; page(3, 1) = 2; page(4, 1) = 1; page(4, 0) = 11
            """);
    }

    private void none() {
        boundary.holds("Pages", "There is none if a line does not fit, or no distribution is allowed.", """
            read "A|B|C9" = 3; tell(0, 9) = 20; count(10) = 1; count(11) = 0; tell(0, 8) = 9; count(10) = NONE; count(11) = NONE; page(0, 0) = BAD
            of(0, 7) = NONE; of(2, 7) = NONE
            """, """
            read "A9|B|C" = 3; tell(0, 8) = 20; count(10) = NONE; count(11) = NONE; page(0, 0) = BAD; of(2, 7) = NONE
            """, """
            read "AAA" = 3; tell(3, 3) = 8; count(10) = 1; tell(3, 2) = 3; count(10) = NONE; count(11) = NONE; page(0, 0) = BAD; of(0, 7) = NONE
            """, """
            read "A|B|CCC" = 5; tell(3, 2) = 8; count(10) = NONE; drop() = 4; count(10) = 3
            """);
        boundary.holds("Pages", "Without lines there are no pages and no cuts.", """
            count(10) = 0; count(11) = 0; page(0, 0) = BAD; page(-1, 0) = BAD
            """, """
            line(0, 0) = 0; count(10) = 1; page(0, 0) = 0; drop() = 0; count(10) = 0; count(11) = 0; page(0, 0) = BAD
            """, """
            read "A9" = 1; tell(0, 6) = 20; count(10) = NONE; read() = 0; count(10) = 0; count(11) = 0; count(9) = 0
            """);
    }

    private void count() {
        boundary.holds("Promise 9", "`what`: 0 to 6 for the setting with this number", """
            count(0) = 20; count(6) = 1; tell(0, 6) = 20; tell(6, 2) = 1; count(0) = 6; count(6) = 2; count(-1) = BAD
            """);
        boundary.holds("Promise 9", "7 for the number of lines, 8 for the number of stanzas", """
            count(7) = 0; count(8) = 0; line(0, 0) = 0; count(7) = 1; count(8) = 1; 11 * line(0, 1) = 11; count(7) = 12; count(8) = 12
            """);
        boundary.holds("Promise 9", "9 for the sum of the costs of all layouts (NONE if a line does not fit)", """
            count(9) = 0; line(0, 0) = 0; count(9) = 0; read "A99A99" = 2; tell(0, 13) = 20; count(9) = 2; tell(0, 12) = 13; count(9) = NONE
            read "A|A|A|A|A|A|A|A|A|A|A|A99" = 12; count(9) = NONE; tell(0, 13) = 12; count(9) = 1
            """, """
            read "A666666A666666A666666A666666A666666A666666A666666A666666A666666A666666A666666A666666" = 12; tell(0, 6) = 20; tell(2, 0) = 4
            count(9) = 60; tell(5, 1) = 0; count(9) = 1140; tell(5, 2) = 1; count(9) = 0; tell(0, 12) = 6; count(9) = 2160
            """);
        boundary.holds("Promise 9", "(10 and 11: NONE if there is no distribution to pages)", """
            read "AAA" = 3; tell(3, 3) = 8; count(10) = 1; count(11) = 0; tell(3, 2) = 3; count(10) = NONE; count(11) = NONE; count(9) = 0
            """);
        boundary.holds("Promise 9", "12 for the number of recorded actions", """
            count(12) = 0; line(0, 0) = 0; count(12) = 1; 5 * word(1, 0) = 5; count(12) = 6; word(1, 0) = 6; count(12) = 6; drift(40) = 10
            count(12) = 6; undo() = 5; count(12) = 5
            """);
        boundary.holds("Promise 9", "BAD if what is not 0 to 12.", """
            count(-1) = BAD; count(0) = 20; count(12) = 0; count(13) = BAD; count(MIN) = BAD; count(MAX) = BAD
            """);
    }

    private void page() {
        boundary.holds("Promise 10", "`p`: number of the page, from 0", """
            read "A|A|A" = 3; tell(3, 2) = 8; page(-1, 0) = BAD; page(0, 0) = 0; page(2, 0) = 2; page(3, 0) = BAD; page(MIN, 0) = BAD; page(MAX, 0) = BAD
            """);
        boundary.holds("Promise 10", "2 for the number of its rows (empty ones included)", """
            read "A|A" = 2; page(0, 2) = 3; tell(3, 2) = 8; page(0, 2) = 1; page(1, 2) = 1
            """);
        boundary.holds("Promise 10", "BAD if there is no such page (also if there is no distribution to pages), or what is not 0 to 2.", """
            page(0, 0) = BAD; line(0, 0) = 0; page(0, -1) = BAD; page(0, 0) = 0; page(0, 2) = 1; page(0, 3) = BAD; page(0, MIN) = BAD; page(0, MAX) = BAD
            page(1, 0) = BAD; page(1, 3) = BAD
            """, """
            read "AAA" = 3; tell(3, 2) = 8; page(0, 0) = BAD; page(0, 1) = BAD; page(0, 2) = BAD; page(-4, 0) = BAD; tell(3, 3) = 2; page(0, 1) = 3
            """, """
            read "A9" = 1; tell(0, 8) = 20; page(0, 0) = BAD; page(0, 2) = BAD; tell(0, 9) = 8; page(0, 2) = 1
            """);
    }
}
