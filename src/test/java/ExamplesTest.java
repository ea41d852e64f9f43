/** The document's four examples, call by call. */
public final class ExamplesTest {
    public static void main(String[] args) {
        Script script = new Script();
        script.run("example 1", """
            type(65) = 1; type(53) = 2; type(55) = 3; type(44) = 4; type(57) = 5
            type(124) = 6; type(66) = 7; type(52) = 8; read() = 2; of(0, 5) = 2; of(0, 6) = 1; tell(5, 1) = 0
            of(0, 6) = 14; said(0, 2, 3) = 4; count(10) = 1; page(0, 2) = 4
            """);
        script.run("example 2", """
            line(1, 0) = 0; word(9, 0) = 1; word(9, 2) = 2; line(2, 0) = 1
            line(1, 0) = 2; of(2, 4) = 0; stanza(0, 3) = 10; tell(3, 2) = 8; count(11) = -4; tell(4, 1) = 2
            count(11) = 1; settings(0) = 2; whole(5, 0) = 7; whole(5, 1) = 8; undo() = 5; count(11) = -4
            """);
        script.run("example 3", """
            drift(3) = 1; count(7) = 1; seed(5) = 662824084; undo() = 2; seed(1) = 377401575; image() = 1
            drop() = -4; restore() = 1; sheet(2, 3, 4) = 4; film(2, 3, 0) = 0; item(2, 3, 1, 7L) = 1
            cuts(2, 3, 0, 1) = -2; copy(2, 0, 2, 1, 3) = 3; lift(1) = -11; item(2, 2, 0, 1L) = -12; count(12) = 2
            """);
        script.run("example 4", """
            type(65) = 1; type(32) = 2; type(49) = 3; type(124) = 4; read() = -24
            word(1, 1) = -4; drop() = -4; rhyme(0, 0) = -1; whole(10, 0) = 1; count(10) = 0; restore() = -4
            page(0, 0) = -1
            """);
        script.end();
    }
}
