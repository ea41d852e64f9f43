/** The boundaries that promises 11 and 13 name. */
final class StanzaBoundaries {
    private final Boundary boundary;

    StanzaBoundaries(Boundary boundary) {
        this.boundary = boundary;
    }

    void all() {
        stanza();
        shapes();
        whole();
        leavingOut();
    }

    private void stanza() {
        boundary.holds("Promise 11", "`k`: number of the stanza", """
            read "A|A|A" = 3; stanza(-1, 0) = BAD; stanza(0, 0) = 0; stanza(2, 0) = 2; stanza(3, 0) = BAD; stanza(MIN, 0) = BAD; stanza(MAX, 0) = BAD
            """);
        boundary.holds("Promise 11", "`what`: 0 for its first line; 1 for the number of its lines", """
            line(0, 0) = 0; stanza(0, 0) = 0; stanza(0, 1) = 1; 11 * line(0, 0) = 11; stanza(0, 1) = 12; drop() = 11; line(0, 1) = 11; stanza(0, 1) = 11
            stanza(1, 0) = 11; stanza(1, 1) = 1
            """);
        boundary.holds("Promise 11", "2 for the number of different rhymes in it", """
            read "A|AAA|AB|ABCD" = 10; stanza(0, 2) = 1; stanza(1, 2) = 1; stanza(2, 2) = 2; stanza(3, 2) = 4; read "DDDDDDDDDDDD" = 12; stanza(0, 2) = 1
            """);
        boundary.holds("Promise 11", "BAD if there is no such stanza, or what is not 0 to 4.", """
            stanza(0, 0) = BAD; line(0, 0) = 0; stanza(0, -1) = BAD; stanza(0, 0) = 0; stanza(0, 4) = 0; stanza(0, 5) = BAD; stanza(0, MIN) = BAD
            stanza(0, MAX) = BAD; stanza(1, 0) = BAD; stanza(1, 5) = BAD; drop() = 0; stanza(0, 0) = BAD; stanza(-1, 0) = BAD
            """);
    }

    private void shapes() {
        boundary.holds("Promise 11", "3 for its shape, the decimal number whose digits are the ranks of its lines, in their order", """
            read "D|AAA|AB|ABCD" = 10; stanza(0, 3) = 0; stanza(1, 3) = 0; stanza(2, 3) = 1; stanza(3, 3) = 123
            read "AAAAAAAAAAAA" = 12; stanza(0, 3) = 0; read "ABBBBBBBBBBB" = 12; stanza(0, 3) = 11111111111L
            read "ABCDDDDDDDDD" = 12; stanza(0, 3) = 12333333333L; read "AAABCDAAAAAA" = 12; stanza(0, 3) = 123000000
            """);
        boundary.holds("Promise 11", "4 for the first stanza with the same shape and the same number of lines (possibly itself)", """
            read "A|AA|AAA|B|BB|CCC" = 12; stanza(0, 4) = 0; stanza(1, 4) = 1; stanza(2, 4) = 2; stanza(3, 4) = 0; stanza(4, 4) = 1; stanza(5, 4) = 2
            """, """
            read "AB|AAB|BA|BC|CCA" = 12; stanza(0, 4) = 0; stanza(1, 4) = 1; stanza(2, 4) = 0; stanza(3, 4) = 0; stanza(4, 4) = 1; stanza(0, 3) = 1
            stanza(1, 3) = 1
            """, """
            read "A|B|C|D|A|B|C|D|A|B|C|D" = 12; stanza(0, 4) = 0; stanza(1, 4) = 0; stanza(11, 4) = 0
            """, """
            read "ABAB|AABB|ABBA" = 12; stanza(0, 4) = 0; stanza(1, 4) = 1; stanza(2, 4) = 2; rhyme(9, 0) = 1; rhyme(11, 1) = 0; stanza(2, 4) = 1
            """);
    }

    private void whole() {
        boundary.holds("Promise 13", "`c`: 0 to 10", """
            whole(-1, 0) = BAD; whole(0, 0) = 1; whole(10, 0) = 1; whole(11, 0) = BAD; whole(MIN, 0) = BAD; whole(MAX, 0) = BAD
            """, """
            read "AAA" = 3; tell(3, 2) = 8; whole(-1, 1) = BAD; whole(0, 0) = 0; whole(0, 1) = 1; whole(1, 0) = 271; whole(1, 1) = 1000
            whole(9, 0) = 999; whole(9, 1) = 1000; whole(10, 0) = 1; whole(10, 1) = 1; whole(11, 1) = BAD
            """);
        boundary.holds("Promise 13", "`what`: 0 for the numerator, 1 for the denominator of the probability in lowest terms", """
            whole(5, -1) = BAD; whole(5, 0) = 1; whole(5, 1) = 1; whole(5, 2) = BAD; whole(5, MIN) = BAD; whole(5, MAX) = BAD
            """, """
            read "AAA" = 3; tell(3, 2) = 8; whole(5, 0) = 7; whole(5, 1) = 8; whole(8, 0) = 124; whole(8, 1) = 125; whole(2, 0) = 61; whole(2, 1) = 125
            whole(4, 0) = 98; whole(4, 1) = 125; whole(3, 0) = 657; whole(3, 1) = 1000
            """, """
            read "AAAAAAAAAAAA" = 12; tell(3, 11) = 8; whole(9, 0) = 999999999999L; whole(9, 1) = 1000000000000L; whole(5, 0) = 4095; whole(5, 1) = 4096
            whole(8, 0) = 244140624; whole(8, 1) = 244140625; whole(1, 0) = 717570463519L; whole(1, 1) = 1000000000000L; whole(0, 0) = 0; whole(0, 1) = 1
            """);
        boundary.holds("Promise 13", "Returns that number, of 0/1 if a line does not fit", """
            read "A1|B9" = 2; tell(0, 9) = 20; whole(5, 0) = 1; whole(5, 1) = 1; tell(0, 8) = 9; whole(0, 0) = 0; whole(0, 1) = 1; whole(5, 0) = 0
            whole(5, 1) = 1; whole(10, 0) = 0; whole(10, 1) = 1
            """);
        boundary.holds("Promise 13", "BAD if c or what is out of range.", """
            whole(11, 2) = BAD; whole(-1, -1) = BAD; whole(10, 1) = 1; whole(0, 0) = 1; read "A9" = 1; tell(0, 6) = 20; whole(11, 0) = BAD
            whole(-1, 1) = BAD; whole(0, 2) = BAD; whole(10, -1) = BAD; whole(0, 1) = 1
            """);
    }

    private void leavingOut() {
        boundary.holds("Promise 13", "Returns the probability that there is a distribution to pages without cuts, if each line is left out with the "
            + "probability c / 10, independently of the others.", """
            read "AA" = 2; tell(3, 2) = 8; whole(0, 0) = 1; whole(0, 1) = 1; whole(3, 0) = 1; whole(3, 1) = 1; line(0, 0) = 2; whole(0, 0) = 0
            whole(0, 1) = 1; whole(10, 0) = 1; whole(10, 1) = 1; tell(3, 3) = 2; whole(0, 0) = 1
            """, """
            read "AAA|BBB" = 6; tell(3, 2) = 8; whole(5, 0) = 49; whole(5, 1) = 64; tell(3, 3) = 2; whole(5, 0) = 1; whole(5, 1) = 1
            """);
        boundary.holds("Promise 13", "The rows of the other lines are as they are with all lines, and these lines belong to the same stanzas as before.", """
            read "AB99AB99" = 4; of(1, 5) = 2; tell(3, 5) = 8; whole(5, 0) = 15; whole(5, 1) = 16; tell(3, 6) = 5; whole(5, 0) = 1; whole(5, 1) = 1
            """, """
            read "AAA|BBB" = 6; tell(3, 2) = 8; whole(9, 0) = 998001; whole(9, 1) = 1000000
            """, """
            read "A666666" = 1; tell(0, 6) = 20; tell(2, 0) = 4; tell(3, 6) = 8; whole(3, 0) = 1; whole(3, 1) = 1; tell(3, 5) = 6; whole(3, 0) = 3
            whole(3, 1) = 10; whole(0, 0) = 0; whole(0, 1) = 1; whole(10, 0) = 1; whole(10, 1) = 1
            """);
        boundary.holds("Promise 13", "(There is such a distribution if no line is left.)", """
            whole(0, 0) = 1; whole(0, 1) = 1; whole(10, 0) = 1; whole(10, 1) = 1
            """, """
            read "A999999A999999A999999A999999A999999A999999" = 6; tell(0, 13) = 20; tell(3, 2) = 8; of(0, 5) = 6; whole(10, 0) = 1; whole(10, 1) = 1
            whole(9, 0) = 531441; whole(9, 1) = 1000000; whole(0, 0) = 0; whole(0, 1) = 1
            """);
    }
}
