/** Promises 14 and 15: type and read. */
public final class TextsTest {
    private static final Script SCRIPT = new Script();

    public static void main(String[] args) {
        type();
        texts();
        wrongTexts();
        limits();
        whatStays();
        SCRIPT.end();
    }

    private static void type() {
        SCRIPT.run("14 range", """
            type(31) = BAD; type(127) = BAD; type(-1) = BAD; type(0) = BAD; type(MIN) = BAD; type(MAX) = BAD; type(32) = 1; type(126) = 2
            read() = -21; type(32) = 1; count(12) = 0
            """);
        VerseSetter setter = new VerseSetter();
        for (int n = 1; n <= 90; n++) {
            SCRIPT.due("14 type " + n, setter.type(n < 90 ? ' ' : 'B'), n);
        }
        SCRIPT.due("14 full", setter.type('A'), VerseSetter.FULL);
        SCRIPT.due("14 full, a blank", setter.type(' '), VerseSetter.FULL);
        SCRIPT.due("14 bad comes before full", setter.type(127), VerseSetter.BAD);
        SCRIPT.due("14 bad comes before full", setter.type(31), VerseSetter.BAD);
        SCRIPT.due("14 the 90 characters are the tape", setter.read(), 1);
        SCRIPT.due("14 and the last one is on it", setter.of(0, 0), 1);
        SCRIPT.due("14 empty again", setter.type('A'), 1);
    }

    private static void texts() {
        SCRIPT.run("15 lines, words, pauses, stanzas", """
            read "A1,2.3!4|D99|C" = 3; of(0, 0) = 0; of(1, 0) = 3; of(2, 0) = 2; of(0, 1) = 1; of(1, 1) = 1; of(2, 1) = 1
            of(0, 2) = 4; of(1, 2) = 2; of(2, 2) = 0; said(0, 0, 1) = 1; said(0, 1, 1) = 2; said(0, 2, 1) = 3; said(0, 3, 1) = 0
            said(0, 0, 0) = 1; said(0, 3, 0) = 4; said(1, 1, 0) = 9
            """);
        SCRIPT.run("15 lines that begin no stanza", """
            read "AB1C" = 3; of(0, 1) = 1; of(1, 1) = 0; of(2, 1) = 0; count(8) = 1; said(1, 0, 0) = 1
            """);
        SCRIPT.run("15 an empty text", """
            line(1, 0) = 0; read() = 0; count(7) = 0; count(12) = 2; undo() = 1; count(7) = 1; read "   " = 0; count(7) = 0; undo() = 1
            of(0, 0) = 1
            """);
        SCRIPT.run("15 blanks everywhere", """
            read "  A  1 , 2  . 3 |  B 4 ! " = 2; of(0, 2) = 3; said(0, 0, 1) = 1; said(0, 1, 1) = 2; said(0, 2, 1) = 0
            said(1, 0, 1) = 3; count(8) = 2; read "A 1 2" = 1; of(0, 2) = 2
            """);
        SCRIPT.run("15 | after a line without words, after a word and after a pause", """
            read "A|B1|C1,|D" = 4; count(8) = 4
            """);
    }

    private static void wrongTexts() {
        SCRIPT.run("15 what cannot stand there", """
            read "|A" = -20; read "1" = -20; read "," = -20; read "!A" = -20; read "E" = -20; read "a" = -20; read "@" = -20
            read "A0" = -21; read "A:" = -21; read "A," = -21; read "A." = -21; read "A!" = -21; read "AE" = -21; read "A1,," = -23
            read "A1,.2" = -23; read "A1!!" = -23; read "A1;" = -22; read "A||B" = -22; read "A|1" = -22; read "A|," = -22
            read "A1|.B" = -23; read "AB|C1}" = -25; read "A1,|!" = -24; read "A1B," = -23; read "A1|B," = -24; read "A1 -" = -23
            count(7) = 0; count(12) = 0
            """);
        SCRIPT.run("15 positions count blanks", """
            read "  |" = -22; read " A 0" = -23; read "A  |  | B" = -26; read "A 1 , ," = -26; read " A 1 | 2" = -27
            """);
        SCRIPT.run("15 a text that ends directly after |", """
            read "A|" = -22; read "A1|" = -23; read "A1!|" = -24; read "A | " = -24; read "A|   " = -25; read "A|B|" = -24; count(7) = 0
            """);
        SCRIPT.run("15 nothing of a wrong text is left for the next one", """
            read "A|" = -22; read() = 0; read "A1|" = -23; read "  " = 0; read "A1" = 1; read "!" = -20; read "A|" = -22; read "1" = -20
            read "A1x" = -22; read "B," = -21
            """);
        SCRIPT.run("15 the first of several errors", """
            read "AxE0|" = -21; read "A1,,,|" = -23; read "A||" = -22
            """);
    }

    private static void limits() {
        SCRIPT.run("15 six words", """
            read "A123456" = 1; of(0, 2) = 6; read "A1,2,3,4,5,6," = 1; said(0, 5, 1) = 1; read "A1234567" = -27; read "A1,2,3,4,5,6,7" = -33
            read "A123456B1" = 2; read "A123456!|B1" = 2; read "A123456 7" = -28
            """);
        SCRIPT.run("15 twelve lines", """
            read "AAAAAAAAAAAA" = 12; count(7) = 12; read "AAAAAAAAAAAAA" = -32; read "AAAAAAAAAAAA1A" = -33; read "AAAAAAAAAAAA9!" = 12
            said(11, 0, 0) = 9; count(7) = 12
            """);
        SCRIPT.run("15 | after a 12th line", """
            read "AAAAAAAAAAAA|" = -33; read "AAAAAAAAAAAA|A" = -33; read "AAAAAAAAAAAA|1" = -33; read "AAAAAAAAAAAA||" = -33
            read "AAAAAAAAAAAA| " = -34; read "AAAAAAAAAAAA| B" = -34; read "AAAAAAAAAAAA|x" = -33; count(7) = 0
            """);
    }

    private static void whatStays() {
        SCRIPT.run("15 the settings and the random number stay", """
            tell(0, 30) = 20; tell(6, 2) = 1; seed(77) = 1; read "AB" = 2; count(0) = 30; count(6) = 2; seed(1) = 77
            """);
        SCRIPT.run("15 all lines are replaced", """
            read "A1|B2|C3" = 3; read "D4" = 1; count(7) = 1; of(0, 0) = 3; said(0, 0, 0) = 4; line(0, 0) = 1; of(1, 2) = 0; of(1, 1) = 0
            """);
        SCRIPT.run("15 a wrong text changes nothing but the tape", """
            read "A1|B2" = 2; seed(9) = 1; read "CCCx" = -23; count(7) = 2; of(0, 0) = 0; of(1, 0) = 1; said(1, 0, 0) = 2; count(12) = 1
            type(67) = 1; read() = 1; of(0, 0) = 2; seed(0) = 9
            """);
        SCRIPT.run("15 read is one action", """
            read "AB" = 2; count(12) = 1; read "C" = 1; count(12) = 2; undo() = 1; count(7) = 2; undo() = 0; count(7) = 0; undo() = NONE
            """);
        SCRIPT.run("15 neither undo nor restore touches the tape", """
            image() = 1; line(0, 0) = 0; type(65) = 1; undo() = 0; type(66) = 2; restore() = 1; type(67) = 3; read() = 3; of(2, 0) = 2
            type(65) = 1; undo() = 0; count(7) = 0; read() = 1
            """);
    }
}
