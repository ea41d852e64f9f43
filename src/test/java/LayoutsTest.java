/** Promises 7, 8 and 12, and what of promise 9 rests on layouts. */
public final class LayoutsTest {
    private static final Script SCRIPT = new Script();

    public static void main(String[] args) {
        properties();
        indentations();
        rules();
        ties();
        fitting();
        numbers();
        sums();
        errors();
        SCRIPT.end();
    }

    private static void properties() {
        SCRIPT.run("7 of, 0 to 3", """
            read "A12|B3C|D" = 4; of(0, 0) = 0; of(1, 0) = 1; of(2, 0) = 2; of(3, 0) = 3
            of(0, 1) = 1; of(1, 1) = 1; of(2, 1) = 0; of(3, 1) = 1; of(0, 2) = 2; of(1, 2) = 1; of(2, 2) = 0; of(3, 2) = 0
            of(0, 3) = 0; of(1, 3) = 1; of(2, 3) = 1; of(3, 3) = 2
            """);
        SCRIPT.run("8 said", """
            read "A12,3.4!|B5 5 5 5" = 2; said(0, 0, 0) = 1; said(0, 3, 0) = 4; said(0, 0, 1) = 0; said(0, 1, 1) = 1
            said(0, 2, 1) = 2; said(0, 3, 1) = 3; said(0, 0, 3) = 0; said(0, 1, 3) = 2; said(0, 2, 3) = 5; said(0, 3, 3) = 9
            said(0, 3, 2) = 0; said(1, 2, 2) = 0; said(1, 3, 2) = 1; said(1, 2, 3) = 12; said(1, 3, 3) = 4
            """);
    }

    private static void indentations() {
        SCRIPT.run("7 by SCHEME 1: STEP * rank, anew in each stanza", """
            read "CACDBDA|DBD" = 10; of(0, 4) = 0; of(1, 4) = 2; of(2, 4) = 0; of(3, 4) = 4; of(4, 4) = 6; of(5, 4) = 4
            of(6, 4) = 2; of(7, 4) = 0; of(8, 4) = 2; of(9, 4) = 0; tell(1, 4) = 2; of(4, 4) = 12; of(3, 4) = 8
            tell(1, 0) = 4; of(4, 4) = 0; tell(1, 3) = 0; rhyme(0, 0) = 2; of(1, 4) = 0; of(2, 4) = 3; of(3, 4) = 6
            """);
        SCRIPT.run("7 by SCHEME 0 and 2", """
            read "CACDBDA|DBD" = 10; tell(6, 0) = 1; of(0, 4) = 0; of(1, 4) = 0; of(4, 4) = 0; of(9, 4) = 0
            tell(6, 2) = 0; of(0, 4) = 0; of(1, 4) = 2; of(2, 4) = 0; of(3, 4) = 2; of(6, 4) = 0
            of(7, 4) = 0; of(8, 4) = 2; of(9, 4) = 0; tell(1, 3) = 2; of(8, 4) = 3; of(5, 4) = 3
            """);
        SCRIPT.run("8 rows begin at the indentation, further ones at the indentation + OVER", """
            read "AB99 9" = 2; said(1, 0, 3) = 2; said(1, 1, 3) = 6; said(1, 2, 3) = 6; said(1, 1, 2) = 1; said(1, 2, 2) = 2
            tell(0, 21) = 20; said(1, 1, 3) = 12; said(1, 2, 3) = 6; tell(2, 9) = 4; said(1, 2, 3) = 11; tell(2, 0) = 9
            said(1, 2, 3) = 2; tell(6, 0) = 1; said(1, 2, 3) = 0; said(1, 0, 3) = 0
            """);
    }

    private static void rules() {
        SCRIPT.run("7 RULE 0 counts rows", """
            read "A5,5.5!5" = 1; tell(0, 10) = 20; tell(2, 0) = 4; of(0, 5) = 4; of(0, 6) = 3; settings(0) = 1
            tell(0, 11) = 10; of(0, 5) = 2; of(0, 6) = 1; settings(0) = 5; tell(0, 17) = 11; of(0, 5) = 2; said(0, 2, 2) = 0
            """);
        SCRIPT.run("7 RULE 1 looks at the pauses", """
            read "A5,5.5!5" = 1; tell(0, 10) = 20; tell(2, 0) = 4; tell(5, 1) = 0; of(0, 6) = 35
            tell(0, 17) = 10; of(0, 6) = 10; of(0, 5) = 2; said(0, 2, 2) = 0; said(0, 3, 2) = 1
            tell(0, 11) = 17; of(0, 6) = 11; said(0, 1, 2) = 0; said(0, 2, 2) = 1
            """);
        SCRIPT.run("7 RULE 1: the pause after the last word costs nothing", """
            read "A1" = 1; tell(5, 1) = 0; of(0, 6) = 0; tell(5, 2) = 1; of(0, 6) = 0
            """);
        SCRIPT.run("7 RULE 2 looks at the room that is left in all rows but the last", """
            read "A6 3 3 6 1" = 1; tell(0, 10) = 20; tell(2, 0) = 4; tell(5, 2) = 0; of(0, 6) = 0; of(0, 5) = 3
            said(0, 1, 2) = 0; said(0, 2, 2) = 1; said(0, 3, 2) = 1; said(0, 4, 2) = 2
            tell(0, 9) = 10; of(0, 6) = 13; of(0, 5) = 3; said(0, 4, 2) = 2; said(0, 4, 3) = 7
            """);
        SCRIPT.run("7 RULE 2: the width includes where the row begins", """
            read "AB5 5 5" = 2; tell(0, 14) = 20; tell(5, 2) = 0; of(1, 5) = 2; of(1, 6) = 1; tell(2, 0) = 4; of(1, 6) = 1
            tell(1, 1) = 2; of(1, 6) = 4; tell(0, 11) = 14; of(1, 6) = 50; of(1, 5) = 3; tell(2, 3) = 0; of(1, 6) = 29
            """);
    }

    private static void ties() {
        SCRIPT.run("8 of several layouts, the one with the most words in the first row", """
            read "A1 1 1 1 1 1" = 1; tell(2, 0) = 4; tell(0, 7) = 20; of(0, 5) = 2; of(0, 6) = 1; said(0, 3, 2) = 0; said(0, 4, 2) = 1
            tell(5, 1) = 0; of(0, 6) = 19; said(0, 3, 2) = 0; said(0, 4, 2) = 1; settings(0) = 29
            """);
        SCRIPT.run("8 then in the second one", """
            read "A2 2 2 2 2" = 1; tell(2, 0) = 4; tell(0, 6) = 20; of(0, 5) = 3; said(0, 1, 2) = 0; said(0, 2, 2) = 1
            said(0, 3, 2) = 1; said(0, 4, 2) = 2; said(0, 3, 3) = 3; said(0, 4, 3) = 0
            """);
        SCRIPT.run("8 a shorter first row, if that costs less", """
            read "A3!3 3 3" = 1; tell(2, 0) = 4; tell(0, 11) = 20; said(0, 2, 2) = 0; tell(5, 1) = 0; of(0, 6) = 10
            said(0, 0, 2) = 0; said(0, 1, 2) = 1; said(0, 3, 2) = 1
            """);
    }

    private static void fitting() {
        SCRIPT.run("7 as wide as the MEASURE", """
            read "A9 9" = 1; tell(0, 19) = 20; of(0, 5) = 1; tell(0, 18) = 19; of(0, 5) = 2; tell(0, 13) = 18; of(0, 5) = 2
            tell(0, 12) = 13; of(0, 5) = NONE; of(0, 6) = NONE; settings(0) = 0; said(0, 0, 2) = NONE; said(0, 1, 3) = NONE
            said(0, 0, 0) = 9; said(0, 0, 1) = 0; of(0, 7) = NONE; of(0, 4) = 0; count(9) = NONE
            """);
        SCRIPT.run("7 a line without words has one layout, even if the MEASURE is smaller than its indentation", """
            read "ABCD" = 4; tell(1, 4) = 2; tell(0, 6) = 20; of(3, 4) = 12; of(3, 5) = 1; of(3, 6) = 0; settings(3) = 1
            of(3, 7) = 0; tell(5, 2) = 0; of(3, 6) = 0; word(1, 0) = 1; of(3, 5) = NONE; settings(3) = 0; of(3, 7) = NONE
            of(2, 5) = 1; of(2, 7) = NONE
            """);
        SCRIPT.run("7 a first word that fits, and a further one that does not", """
            read "A6 3" = 1; tell(0, 6) = 20; of(0, 5) = NONE; tell(2, 3) = 4; of(0, 5) = 2; said(0, 1, 3) = 3
            """);
    }

    private static void numbers() {
        SCRIPT.run("12 settings", """
            settings(0) = BAD; read "A1 2 3 4 5 6 B1 2 3 C1 D" = 4; tell(0, 40) = 20; settings(0) = 32; settings(1) = 4
            settings(2) = 1; settings(3) = 1; settings(4) = BAD; settings(-1) = BAD; settings(MIN) = BAD; settings(MAX) = BAD
            tell(5, 2) = 0; settings(0) = 32; tell(0, 10) = 40; settings(0) = 4; tell(0, 9) = 10; settings(0) = 0
            """);
    }

    private static void sums() {
        SCRIPT.run("9 the sum of the costs", """
            count(9) = 0; read "A9 9 9|B5 5 5 5|C" = 3; count(9) = 2; tell(5, 1) = 0; count(9) = 38; tell(5, 2) = 1; count(9) = 10
            tell(0, 12) = 20; count(9) = NONE; drop() = 2; count(9) = NONE; drop() = 1; count(9) = NONE; drop() = 0; count(9) = 0
            """);
    }

    private static void errors() {
        SCRIPT.run("7 and 8, wrong arguments", """
            of(0, 0) = BAD; said(0, 0, 0) = BAD; read "A5" = 1; of(1, 0) = BAD; of(-1, 0) = BAD; of(0, -1) = BAD; of(0, 8) = BAD
            of(1, 8) = BAD; of(MIN, 7) = BAD; of(MAX, 7) = BAD; of(0, MAX) = BAD; said(0, 0, 4) = BAD; said(0, 0, -1) = BAD
            said(0, 1, 0) = BAD; said(0, -1, 0) = BAD; said(1, 0, 0) = BAD; said(-1, 0, 0) = BAD; said(0, MAX, 2) = BAD
            said(MIN, MIN, MIN) = BAD; tell(2, 9) = 4; line(0, 0) = 1; said(1, 0, 2) = BAD; said(1, 0, 0) = BAD
            """);
        SCRIPT.run("7 and 8, wrong arguments where a line does not fit", """
            read "A9" = 1; tell(0, 6) = 20; of(0, 5) = NONE; of(0, 8) = BAD; said(0, 0, 3) = NONE; said(0, 1, 3) = BAD
            said(0, 0, 4) = BAD; count(12) = 2
            """);
    }
}
