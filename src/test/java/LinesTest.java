/** Promises 1 to 6: a new object, line, word, drop, rhyme, tell. */
public final class LinesTest {
    private static final Script SCRIPT = new Script();

    public static void main(String[] args) {
        newObject();
        line();
        word();
        drop();
        rhyme();
        tell();
        SCRIPT.end();
    }

    private static void newObject() {
        SCRIPT.run("1 settings", """
            count(0) = 20; count(1) = 2; count(2) = 4; count(3) = 8; count(4) = 2; count(5) = 0; count(6) = 1
            """);
        SCRIPT.run("1 nothing else", """
            count(7) = 0; count(8) = 0; count(9) = 0; count(10) = 0; count(11) = 0; count(12) = 0
            undo() = NONE; restore() = NONE; seed(0) = 1; type(65) = 1
            lift(0) = NULL; lift(1) = NULL; lift(2) = NULL; lift(3) = NULL
            """);
        SCRIPT.run("1 an empty tape", "read() = 0; count(7) = 0");
        SCRIPT.run("1 objects are apart: one", "line(0, 0) = 0; sheet(0, 0, 3) = 3; tell(0, 9) = 20; image() = 1; type(66) = 1");
        SCRIPT.run("1 objects are apart: another", """
            count(7) = 0; lift(0) = NULL; count(0) = 20; restore() = NONE; type(66) = 1
            """);
    }

    private static void line() {
        SCRIPT.run("2 numbers", """
            line(0, 0) = 0; line(1, 0) = 1; line(2, 1) = 2; line(3, 0) = 3; count(7) = 4; count(8) = 2
            of(0, 0) = 0; of(1, 0) = 1; of(2, 0) = 2; of(3, 0) = 3
            of(0, 1) = 1; of(1, 1) = 0; of(2, 1) = 1; of(3, 1) = 0; of(3, 2) = 0; count(12) = 4
            """);
        SCRIPT.run("2 line 0 begins a stanza, also after another one was dropped", """
            line(0, 0) = 0; of(0, 1) = 1; drop() = 0; line(3, 1) = 0; of(0, 1) = 1; of(0, 0) = 3
            """);
        SCRIPT.run("2 no words are left of a line that was dropped", """
            line(0, 0) = 0; word(3, 1) = 1; drop() = 0; line(0, 0) = 0; of(0, 2) = 0; word(4, 2) = 1; said(0, 0, 0) = 4
            """);
        SCRIPT.run("2 out of range", """
            line(-1, 0) = BAD; line(4, 0) = BAD; line(0, -1) = BAD; line(0, 2) = BAD; line(MIN, MAX) = BAD
            line(4, 2) = BAD; count(7) = 0; count(12) = 0
            """);
        SCRIPT.run("2 full", """
            line(0, 0) = 0; line(0, 0) = 1; line(0, 0) = 2; line(0, 0) = 3; line(0, 0) = 4; line(0, 0) = 5
            line(0, 0) = 6; line(0, 0) = 7; line(0, 0) = 8; line(0, 0) = 9; line(0, 0) = 10; tell(0, 6) = 20
            line(0, 0) = 11; line(0, 0) = FULL; line(3, 1) = FULL; line(4, 0) = BAD; line(0, 2) = BAD; count(7) = 12
            undo() = 5; count(7) = 11; undo() = 4; count(0) = 20
            """);
    }

    private static void word() {
        SCRIPT.run("3 to the last line", """
            line(0, 0) = 0; word(1, 0) = 1; line(1, 0) = 1; word(9, 3) = 1; word(2, 1) = 2
            of(0, 2) = 1; of(1, 2) = 2; said(0, 0, 0) = 1; said(0, 0, 1) = 0; said(1, 0, 0) = 9; said(1, 0, 1) = 3
            said(1, 1, 0) = 2; said(1, 1, 1) = 1; count(12) = 5
            """);
        SCRIPT.run("3 errors in their order", """
            word(1, 0) = NONE; word(0, 0) = BAD; word(10, 0) = BAD; word(1, -1) = BAD; word(1, 4) = BAD; count(12) = 0
            line(0, 0) = 0; word(1, 0) = 1; word(2, 1) = 2; word(3, 2) = 3; word(4, 3) = 4; word(5, 0) = 5; word(6, 1) = 6
            word(7, 0) = FULL; word(0, 0) = BAD; word(MIN, 0) = BAD; word(7, MAX) = BAD; of(0, 2) = 6; said(0, 5, 0) = 6
            said(0, 5, 1) = 1; undo() = 5; of(0, 2) = 5
            """);
    }

    private static void drop() {
        SCRIPT.run("4", """
            drop() = NONE; count(12) = 0; line(1, 0) = 0; line(2, 1) = 1; line(3, 0) = 2
            drop() = 2; count(8) = 2; drop() = 1; count(8) = 1; of(0, 0) = 1; of(1, 0) = BAD; drop() = 0; drop() = NONE
            count(12) = 6; undo() = 5; count(7) = 1; of(0, 0) = 1
            """);
    }

    private static void rhyme() {
        SCRIPT.run("5", """
            line(1, 0) = 0; word(5, 2) = 1; line(2, 1) = 1; rhyme(0, 3) = 1; rhyme(1, 0) = 2; of(0, 0) = 3; of(1, 0) = 0
            of(0, 2) = 1; of(1, 1) = 1; said(0, 0, 1) = 2; count(12) = 5; undo() = 4; of(1, 0) = 2; of(0, 0) = 3
            """);
        SCRIPT.run("5 errors in their order", """
            rhyme(0, 0) = BAD; line(1, 0) = 0; rhyme(0, 1) = NOT; rhyme(0, 4) = BAD; rhyme(0, -1) = BAD; rhyme(1, 1) = BAD
            rhyme(-1, 1) = BAD; rhyme(MAX, 0) = BAD; rhyme(MIN, 0) = BAD; count(12) = 1; of(0, 0) = 1
            """);
    }

    private static void tell() {
        int[] least = {6, 0, 0, 2, 1, 0, 0};
        int[] most = {40, 4, 9, 20, 3, 2, 2};
        int[] atFirst = {20, 2, 4, 8, 2, 0, 1};
        for (int s = 0; s < 7; s++) {
            VerseSetter setter = new VerseSetter();
            String name = "6 setting " + s + ": ";
            SCRIPT.due(name + "not", setter.tell(s, atFirst[s]), VerseSetter.NOT);
            SCRIPT.due(name + "below", setter.tell(s, least[s] - 1), VerseSetter.BAD);
            SCRIPT.due(name + "above", setter.tell(s, most[s] + 1), VerseSetter.BAD);
            SCRIPT.due(name + "unchanged", setter.count(s), atFirst[s]);
            SCRIPT.due(name + "not recorded", setter.count(12), 0);
            int now = atFirst[s];
            for (int v = least[s]; v <= most[s]; v++) {
                SCRIPT.due(name + "tell " + v, setter.tell(s, v), v == now ? VerseSetter.NOT : now);
                SCRIPT.due(name + "told " + v, setter.count(s), v);
                now = v;
            }
            for (int other = 0; other < 7; other++) {
                SCRIPT.due(name + "leaves " + other, setter.count(other), other == s ? now : atFirst[other]);
            }
        }
        SCRIPT.run("6 errors", """
            tell(-1, 0) = BAD; tell(7, 0) = BAD; tell(MIN, 1) = BAD; tell(MAX, 1) = BAD; tell(0, MIN) = BAD; tell(3, MAX) = BAD
            count(12) = 0; tell(1, 0) = 2; count(12) = 1; tell(1, 0) = NOT; count(12) = 1; undo() = 0; count(1) = 2
            """);
    }
}
