/** The boundaries that "Texts" and promises 14 and 15 name. */
final class TextBoundaries {
    private static final String TWELVE = "ABCDABCDABCD";

    private final Boundary boundary;

    TextBoundaries(Boundary boundary) {
        this.boundary = boundary;
    }

    void all() {
        tape();
        lines();
        words();
        bars();
        errorPositions();
        lastPositions();
        type();
        read();
    }

    private static String blanks(int n) {
        return " ".repeat(n);
    }

    private void tape() {
        boundary.holds("Texts", "There is a tape with at most 90 characters.",
            "type \"" + blanks(89) + "\" = 89; type(66) = 90; type(65) = FULL; read() = 1; of(0, 0) = 1; count(7) = 1; type(65) = 1",
            // 90 characters that all count: twelve lines with six words, and six pauses.
            "type \"" + "A111111".repeat(12) + "\" = 84; type \"!\" = 85; type \"     \" = 90; type(32) = FULL; read() = 12; said(11, 5, 1) = 3");
    }

    private void lines() {
        boundary.holds("Texts", "A text is a sequence of lines, which may be empty.", """
            read() = 0; count(7) = 0; count(12) = 1; read "  " = 0; line(0, 0) = 0; read() = 0; count(7) = 0
            """);
        boundary.holds("Texts", "A line is a letter A to D (the rhyme 0 to 3)", """
            read "@" = -20; read "A" = 1; of(0, 0) = 0; read "B" = 1; of(0, 0) = 1; read "C" = 1; of(0, 0) = 2; read "D" = 1; of(0, 0) = 3; read "E" = -20
            read "a" = -20; read "d" = -20; read "A@" = -21; read "AE" = -21; of(0, 0) = 3
            """);
        boundary.holds("Texts", "and 0 to 6 words", """
            read "A" = 1; of(0, 2) = 0; read "A1" = 1; of(0, 2) = 1; read "A123456" = 1; of(0, 2) = 6; read "A1234567" = -27; of(0, 2) = 6
            read "B!1" = -21; read "A123456B123456" = 2; of(1, 2) = 6; read "A123456BC" = 3; of(1, 2) = 0; of(2, 2) = 0
            """);
    }

    private void words() {
        boundary.holds("Texts", "a word is a digit 1 to 9 (its letters)", """
            read "A0" = -21; read "A1" = 1; said(0, 0, 0) = 1; read "A9" = 1; said(0, 0, 0) = 9; read "A:" = -21; read "A/" = -21; read "A10" = -22
            read "1" = -20; read "0" = -20
            """);
        // Beside the three signs stand the codes 34, 43, 45 and 47; a blank (32) is none of them, either.
        boundary.holds("Texts", "optionally followed by a comma, a point or an exclamation mark (the pause 1, 2 or 3; otherwise 0)", """
            read "A1,2.3!4" = 1; said(0, 0, 1) = 1; said(0, 1, 1) = 2; said(0, 2, 1) = 3; said(0, 3, 1) = 0; read "A1,1" = 1; said(0, 1, 1) = 0
            """, """
            read "A1+" = -22; read "A1-" = -22; read "A1/" = -22; type "A1" = 2; type(34) = 3; read() = -22; read "A1;" = -22; read "A1?" = -22
            """, """
            read "A1,," = -23; read "A1.," = -23; read "A1!." = -23; read "A," = -21; read "A!" = -21; read "." = -20; read "A1B." = -23
            read "A1,2,3,4,5,6!" = 1; said(0, 5, 1) = 3; read "A1,2,3,4,5,6!!" = -33; read "A1,2,3,4,5,6!7" = -33
            """);
        boundary.holds("Texts", "Blanks (32) may stand everywhere and are ignored.", """
            read " A 1 , 2 | B " = 2; said(0, 0, 1) = 1; of(0, 2) = 2; of(1, 1) = 1; read " " = 0; read "A  1  !  " = 1; said(0, 0, 1) = 3
            """, """
            type(31) = BAD; type(33) = 1; read() = -20; read "A  ! " = -23
            """, "type \"" + blanks(90) + "\" = 90; read() = 0; read \"" + blanks(45) + "A" + blanks(43) + "9\" = 1; said(0, 0, 0) = 9");
    }

    private void bars() {
        boundary.holds("Texts", "The sign | may stand after a line", """
            read "|" = -20; read "|A" = -20; read " |A" = -21; read "A|B" = 2; read "A1|B" = 2; read "A1!|B" = 2; read "A123456|B" = 2
            read "A{B" = -21; read "A}B" = -21; count(8) = 2
            """);
        boundary.holds("Texts", "also after a 12th one",
            "read \"" + TWELVE + "|\" = -33; read \"" + TWELVE + "1|\" = -34; read \"" + TWELVE + "1!|\" = -35; read \"ABCDABCDABC|D\" = 12; count(8) = 2");
        boundary.holds("Texts", "a line must follow it then, which begins a stanza", """
            read "A||B" = -22; read "A|1" = -22; read "A|," = -22; read "A|B" = 2; of(1, 1) = 1; count(8) = 2; read "AB" = 2; of(1, 1) = 0; count(8) = 1
            read "A|BC" = 3; of(1, 1) = 1; of(2, 1) = 0; read "A|B|C" = 3; of(2, 1) = 1; read "A|E" = -22
            """);
    }

    private void errorPositions() {
        boundary.holds("Texts", "The error position of a text is the index, from 0, of the first character (not a blank) that cannot stand there",
            "read \"x\" = -20; read \" x\" = -21; read \"x x\" = -20; read \"A1,,0E|\" = -23; read \"A  0 0\" = -23; read \"~\" = -20; read \"A1B2~\" = -24",
            "read \"" + blanks(89) + "x\" = -109; read \"" + blanks(88) + "A0\" = -109; read \"x" + blanks(89) + "\" = -20",
            "read \"" + "A111111".repeat(12) + "!!\" = -105; count(7) = 0");
        boundary.holds("Texts", "(also of the letter of a 13th line",
            "read \"" + TWELVE + "\" = 12; read \"" + TWELVE + "A\" = -32; read \"" + TWELVE + "1A\" = -33; read \"" + TWELVE + " D\" = -33; count(7) = 12",
            "read \"" + "A11111".repeat(12) + "\" = 12; read \"" + "A11111".repeat(12) + "A\" = -92; of(11, 2) = 5");
        boundary.holds("Texts", "the digit of a 7th word", """
            read "A999999" = 1; read "A9999999" = -27; read "A999999 9" = -28; read "A9,9,9,9,9,9,9" = -33; read "AB999999|C1111111" = -36; read "A9999990" = -27
            """);
        boundary.holds("Texts", "and anything behind a | that stands after a 12th line)",
            "read \"" + TWELVE + "|A\" = -33; read \"" + TWELVE + "|1\" = -33; read \"" + TWELVE + "|!\" = -33; read \"" + TWELVE + "||\" = -33",
            "read \"" + TWELVE + "|x\" = -33; read \"" + TWELVE + "| A\" = -34; read \"" + TWELVE + "1|  D\" = -36; read \"ABCDABCDABC|DA\" = -33");
    }

    private void lastPositions() {
        boundary.holds("Texts", "or the number of characters on the tape if it ends directly after |.",
            "read \"A|\" = -22; read \"A1,|\" = -24; read \"A|B|\" = -24; read \"|\" = -20; read \"A||\" = -22; count(7) = 0",
            "read \"A| \" = -23; read \"A|  \" = -24; read \" A | \" = -25",
            "read \"" + TWELVE + "|\" = -33; read \"" + TWELVE + "| \" = -34",
            "read \"" + blanks(88) + "A|\" = -110; read \"A|" + blanks(88) + "\" = -110; type(65) = 1");
    }

    private void type() {
        boundary.holds("Promise 14", "`letter`: its code, 32 to 126", """
            type(31) = BAD; type(32) = 1; type(126) = 2; type(127) = BAD; read() = -21
            """);
        boundary.holds("Promise 14", "Returns the number of characters on the tape; BAD if letter is out of range", """
            type(0) = BAD; type(-1) = BAD; type(MIN) = BAD; type(MAX) = BAD; type(128) = BAD; type(65) = 1; type(31) = BAD; type(66) = 2; read() = 2
            type(67) = 1
            """);
        boundary.holds("Promise 14", "FULL if there are 90.",
            "type \"" + blanks(88) + "\" = 88; type(32) = 89; type(67) = 90; type(65) = FULL; type(126) = FULL; type(32) = FULL; read() = 1; of(0, 0) = 2; type(65) = 1",
            "type \"" + blanks(90) + "\" = 90; type(127) = BAD; type(31) = BAD; type(66) = FULL; read() = 0");
    }

    private void read() {
        boundary.holds("Promise 15", "Replaces all lines by those of the text on the tape.",
            "12 * line(3, 1) = 11; 6 * word(1, 1) = 6; read \"A\" = 1; count(7) = 1; of(0, 0) = 0; of(0, 2) = 0; of(1, 0) = BAD; read() = 0; count(7) = 0",
            "read \"" + TWELVE + "\" = 12; of(11, 0) = 3; read \"A2|B\" = 2; line(0, 0) = 2; of(2, 1) = 0; of(2, 2) = 0; of(2, 0) = 0");
        boundary.holds("Promise 15", "The tape is empty then, also if the text has an error (then nothing else changes).", """
            read "AB" = 2; read() = 0; read "AB" = 2; read "C|" = -22; type(65) = 1; read() = 1; of(0, 0) = 0
            """, """
            read "A1|B" = 2; tell(0, 9) = 20; seed(5) = 1; image() = 1; read "CCCCCCx" = -26; count(7) = 2; said(0, 0, 0) = 1; count(0) = 9; count(12) = 2
            seed(6) = 5; undo() = 1; count(0) = 20; undo() = 0; count(7) = 0; restore() = 1; count(7) = 2
            """, "type \"x" + blanks(89) + "\" = 90; type(65) = FULL; read() = -20; type(65) = 1; read() = 1");
        boundary.holds("Promise 15", "The settings and the random number stay.", """
            tell(0, 6) = 20; tell(1, 4) = 2; tell(2, 9) = 4; tell(3, 20) = 8; tell(4, 3) = 2; tell(5, 2) = 0; tell(6, 0) = 1; seed(MAX) = 1; read "A" = 1
            count(0) = 6; count(1) = 4; count(2) = 9; count(3) = 20; count(4) = 3; count(5) = 2; count(6) = 0; seed(0) = 2147483647; read() = 0; seed(1) = 0
            """);
        boundary.holds("Promise 15", "Returns the number of lines; -20 - p if the text has an error with the position p.",
            "read() = 0; read \"A\" = 1; read \"" + TWELVE + "\" = 12; read \"0\" = -20; read \"A0\" = -21; read \"" + blanks(89) + "0\" = -109",
            "read \"" + blanks(88) + "A|\" = -110");
    }
}
