/** Pasts of objects, each given by its calls (see Script), for tests that make the same calls in many states. */
final class States {
    static final String NEW = "";

    /** Something of everything: lines, settings, a text on the tape, an image, recorded actions, and sheets; sheet 3 is empty. */
    static final String SOME = """
        read "A1,2|BC3!|D"; tell(0, 12); line(1, 1); image(); word(4, 2); rhyme(0, 3); drop(); seed(77); tell(4, 1)
        sheet(0, 0, 3); item(0, 0, 0, 1L); item(0, 0, 1, 2L); item(0, 0, 2, 3L); sheet(1, 1, 24); film(1, 1, 0); item(1, 1, 23, 4L)
        sheet(2, 2, 0); type "AB1!|C"
        """;

    /** No more room: twelve lines, six words in the last one, 90 characters, six recorded actions, sheets of 24 elements. */
    static final String FULL = "read \"AAAA1BBBBCCC|D987654\"; sheet(0, 0, 24); sheet(1, 1, 24); sheet(2, 2, 24); sheet(3, 2, 24); film(0, 0, 0); film(0, 0, 12)\n"
        + "film(1, 1, 5); film(2, 2, 12); film(3, 2, 3); tell(0, 40); tell(1, 4); tell(2, 9); image(); tell(3, 20); tell(4, 3); tell(5, 2)\n"
        + "type \"" + "B1!2,3 . ".repeat(10) + "\"";

    /** A line that does not fit. */
    static final String UNFIT = """
        read "A1B9 9|C2"; tell(0, 7); sheet(0, 0, 4); item(0, 0, 0, 3L); item(0, 0, 1, 1L); item(0, 0, 2, 2L); sheet(1, 0, 2); sheet(2, 3, 3); film(2, 3, 0)
        """;

    /** All lines fit, but no distribution to pages is allowed. */
    static final String NO_PAGES = """
        read "AAA|B1"; tell(3, 2); sheet(0, 3, 24); item(0, 3, 0, 2L); item(0, 3, 1, 2L); item(0, 3, 2, 1L); item(0, 3, 3, 3L); sheet(1, 3, 3); sheet(2, 2, 2)
        image(); drift(2)
        """;

    static final String[] ALL = {NEW, SOME, FULL, UNFIT, NO_PAGES};

    private States() {
    }
}
