import java.util.List;

/**
 * Calls that are refused, in states where two or more errors apply at once wherever there can be more: the first
 * one is answered, and everything answers as before the call.
 */
final class RefusedCalls {
    private static final String ORDER = "Each method lists them in the order in which they are checked; the first one that applies is returned.";
    private static final String NO_CHANGE = "A call that returns one of them changes nothing, except read().";

    private final Boundary boundary;

    RefusedCalls(Boundary boundary) {
        this.boundary = boundary;
    }

    void all() {
        lines();
        questions();
        doing();
        reading();
        cuts();
        film();
        sheets();
        copy();
    }

    /** Each row is a call with its error, as "line(4, 0) = BAD". */
    private void refused(String past, String... rows) {
        for (String row : rows) {
            int equals = row.lastIndexOf('=');
            Call call = Call.parse(row.substring(0, equals));
            boundary.answers("Errors", ORDER, past, call, Call.value(row.substring(equals + 1)));
            boundary.alike("Errors", NO_CHANGE, past, List.of(call));
        }
    }

    private void lines() {
        refused(States.NEW, "line(-1, 0) = BAD", "line(4, 0) = BAD", "line(0, -1) = BAD", "line(0, 2) = BAD", "word(1, 0) = NONE",
            "word(0, 0) = BAD", "word(10, 0) = BAD", "word(1, -1) = BAD", "word(1, 4) = BAD", "drop() = NONE", "rhyme(0, 0) = BAD", "rhyme(0, 4) = BAD",
            "tell(0, 20) = NOT", "tell(0, 41) = BAD", "tell(7, 20) = BAD");
        // FULL, but an argument is out of range, too.
        refused(States.FULL, "line(0, 0) = FULL", "line(3, 1) = FULL", "line(4, 0) = BAD", "line(-1, 0) = BAD", "line(0, 2) = BAD", "line(0, -1) = BAD",
            "word(1, 0) = FULL", "word(9, 3) = FULL", "word(0, 0) = BAD", "word(10, 0) = BAD", "word(1, 4) = BAD", "word(1, -1) = BAD");
        // In SOME, line 1 has the rhyme 1, and the setting 0 is 12.
        refused(States.SOME, "line(4, 1) = BAD", "word(1, 4) = BAD", "rhyme(1, 1) = NOT", "rhyme(4, 1) = BAD", "rhyme(-1, 1) = BAD", "rhyme(1, 4) = BAD",
            "rhyme(1, -1) = BAD", "rhyme(4, 4) = BAD", "rhyme(12, 3) = BAD", "tell(0, 12) = NOT", "tell(0, 5) = BAD", "tell(0, 41) = BAD", "tell(-1, 12) = BAD",
            "tell(7, 12) = BAD", "tell(7, 41) = BAD", "tell(4, 1) = NOT", "tell(4, 0) = BAD");
    }

    private void questions() {
        refused(States.NEW, "of(0, 0) = BAD", "of(0, 8) = BAD", "said(0, 0, 0) = BAD", "page(0, 0) = BAD", "stanza(0, 0) = BAD", "settings(0) = BAD",
            "whole(11, 0) = BAD", "whole(0, 2) = BAD", "count(13) = BAD");
        refused(States.SOME, "of(4, 0) = BAD", "of(0, 8) = BAD", "of(4, 8) = BAD", "said(0, 2, 0) = BAD", "said(0, 0, 4) = BAD", "said(4, 0, 0) = BAD",
            "said(4, 6, 4) = BAD", "page(9, 0) = BAD", "page(0, 3) = BAD", "stanza(3, 0) = BAD", "stanza(0, 5) = BAD", "settings(4) = BAD", "whole(-1, 0) = BAD",
            "whole(0, -1) = BAD", "count(-1) = BAD");
        // A line that does not fit, or no distribution, and an argument that is out of range.
        refused(States.UNFIT, "of(1, 5) = NONE", "of(1, 6) = NONE", "of(0, 7) = NONE", "of(3, 5) = BAD", "of(1, 8) = BAD", "said(1, 0, 2) = NONE", "said(1, 1, 3) = NONE",
            "said(1, 2, 2) = BAD", "said(1, 0, 4) = BAD", "count(9) = NONE", "count(10) = NONE", "count(11) = NONE", "page(0, 0) = BAD", "page(0, 3) = BAD",
            "whole(11, 0) = BAD", "whole(5, 2) = BAD");
        // NONE is a value of a line or a word there ("that says that there is no such number"), so the line or the word must exist.
        refused(States.UNFIT, "of(3, 6) = BAD", "of(3, 7) = BAD", "of(12, 7) = BAD", "of(-1, 7) = BAD", "said(3, 0, 2) = BAD", "said(1, 6, 3) = BAD",
            "said(1, -1, 2) = BAD");
        refused(States.NO_PAGES, "of(0, 7) = NONE", "of(12, 7) = BAD", "of(-1, 7) = BAD", "count(10) = NONE", "count(11) = NONE", "page(0, 0) = BAD");
    }

    private void doing() {
        refused(States.NEW, "type(31) = BAD", "type(127) = BAD", "drift(0) = BAD", "drift(41) = BAD", "undo() = NONE", "seed(-1) = BAD", "restore() = NONE");
        // FULL, but the character is out of range, too.
        refused(States.FULL, "type(32) = FULL", "type(126) = FULL", "type(31) = BAD", "type(127) = BAD", "drift(41) = BAD", "seed(-1) = BAD");
        refused(States.SOME, "type(31) = BAD", "type(127) = BAD", "drift(0) = BAD", "drift(-1) = BAD", "drift(41) = BAD", "seed(-1) = BAD", "seed(MIN) = BAD");
        refused("image(); line(0, 0); undo()", "undo() = NONE");
        refused("line(0, 0); line(1, 1); type(65); sheet(0, 0, 1)", "restore() = NONE");
    }

    /** A text with an error: the tape is empty before it here, so that even the tape is as before. */
    private void reading() {
        String past = States.SOME + "; read()";
        for (String text : new String[] {"x", "A1|B2|", "ABCDABCDABCDA", "A1111111", "ABCDABCDABCD|A", "A||B", "A1,,"}) {
            List<Call> calls = Script.callsOf("read \"" + text + "\"");
            boundary.alike("Errors", NO_CHANGE, past, calls);
            boundary.alike("Promise 15", "also if the text has an error (then nothing else changes)", States.NEW, calls);
        }
        // What was on the tape is gone after an error, and that is all.
        boundary.alike("Errors", "except read()", "line(2, 0); word(3, 1)", Script.callsOf("read \"C4x\""));
    }

    private void cuts() {
        refused(States.NEW, "cuts(4, 0, 0, 1) = BAD", "cuts(0, 4, 0, 1) = BAD", "cuts(0, 0, 0, 13) = BAD", "cuts(0, 0, 0, 0) = BAD", "cuts(0, 0, -1, 1) = NULL",
            "cuts(0, 0, 0, 1) = NULL", "cuts(-1, -1, -1, 0) = BAD");
        // In SOME, sheet 3 is empty; sheet 1 has another type, index and sum; sheet 0 has 1, 2, 3, and there are four lines.
        refused(States.SOME, "cuts(3, 4, -1, 1) = BAD", "cuts(3, 0, -1, 13) = BAD", "cuts(3, 0, -1, 0) = BAD", "cuts(4, 1, 0, 1) = BAD", "cuts(3, 0, -1, 1) = NULL",
            "cuts(1, 0, 25, 13) = BAD", "cuts(1, 4, 25, 1) = BAD", "cuts(1, 0, 25, 1) = CAST", "cuts(1, 0, 0, 1) = CAST", "cuts(1, 1, 24, 1) = INDEX",
            "cuts(1, 1, -1, 1) = INDEX", "cuts(1, 1, 13, 12) = INDEX", "cuts(0, 0, 0, 4) = INDEX", "cuts(0, 0, 0, 1) = NOT", "cuts(0, 0, 0, 3) = NOT",
            "cuts(1, 1, 22, 1) = NOT", "cuts(2, 2, 0, 1) = INDEX", "cuts(2, 1, 0, 1) = CAST");
        // In UNFIT, sheet 0 has 3, 1, 2 and 0, and line 1 of three does not fit.
        refused(States.UNFIT, "cuts(0, 0, 0, 1) = NONE", "cuts(0, 0, 1, 2) = NONE", "cuts(0, 0, 1, 1) = NOT", "cuts(0, 0, 3, 1) = NOT", "cuts(0, 0, 4, 1) = INDEX",
            "cuts(0, 1, 0, 1) = CAST", "cuts(3, 0, 0, 1) = NULL", "cuts(0, 0, 0, 13) = BAD");
        // In NO_PAGES, sheet 0 has 2, 2, 1, 3 and zeros, and there are four lines.
        refused(States.NO_PAGES, "cuts(0, 3, 0, 2) = NONE", "cuts(0, 3, 2, 2) = NONE", "cuts(0, 3, 1, 1) = NOT", "cuts(0, 3, 1, 4) = NOT", "cuts(0, 3, 0, 3) = NOT");
    }

    private void film() {
        refused(States.NEW, "film(4, 0, 0) = BAD", "film(0, 4, 0) = BAD", "film(0, 0, -1) = NULL", "film(-1, -1, -1) = BAD");
        refused(States.SOME, "film(3, 4, 0) = BAD", "film(4, 0, 0) = BAD", "film(3, 0, -1) = NULL", "film(1, 4, 25) = BAD", "film(1, 0, 25) = CAST",
            "film(0, 1, 0) = CAST", "film(0, 0, 0) = INDEX", "film(0, 0, -1) = INDEX", "film(1, 1, 21) = INDEX", "film(1, 1, -1) = INDEX", "film(2, 2, 0) = INDEX");
        refused(States.FULL, "film(0, 0, 13) = INDEX", "film(0, 0, 24) = INDEX", "film(0, 1, 13) = CAST", "film(0, 0, MAX) = INDEX");
    }

    private void sheets() {
        refused(States.NEW, "sheet(4, 0, -1) = BAD", "sheet(0, 4, -1) = BAD", "sheet(0, 0, -1) = SIZE", "sheet(0, 0, 25) = BAD", "lift(0) = NULL", "lift(4) = BAD",
            "item(0, 0, -1, 1L) = NULL", "item(4, 0, 0, 1L) = BAD", "item(0, 4, 0, 1L) = BAD");
        refused(States.SOME, "sheet(0, 1, -1) = SIZE", "sheet(0, 1, 25) = BAD", "sheet(0, 4, 1) = BAD", "sheet(0, -1, -1) = BAD", "sheet(4, 1, -1) = BAD",
            "sheet(4, 4, 25) = BAD", "lift(3) = NULL", "lift(-1) = BAD", "item(3, 4, 9, 1L) = BAD", "item(4, 0, 9, 1L) = BAD", "item(3, 0, 9, 1L) = NULL",
            "item(0, 4, 9, 5L) = BAD", "item(0, 1, 9, 5L) = CAST", "item(0, 1, 0, 5L) = CAST", "item(0, 0, 3, 5L) = INDEX", "item(0, 0, -1, 5L) = INDEX",
            "item(2, 2, 0, 5L) = INDEX");
        refused(States.FULL, "sheet(0, 0, 25) = BAD", "sheet(3, 2, -1) = SIZE", "item(0, 0, 24, 5L) = INDEX", "item(0, 0, -1, 5L) = INDEX");
    }

    private void copy() {
        refused(States.NEW, "copy(4, 0, 0, 0, 0) = BAD", "copy(0, 0, 4, 0, 0) = BAD", "copy(0, -1, 0, -1, -1) = NULL", "copy(-1, -1, -1, -1, -1) = BAD");
        // Sheet 3 is empty, sheets 0 and 1 have different types, and sheet 0 has three elements.
        refused(States.SOME, "copy(3, 0, 4, 0, 1) = BAD", "copy(4, 0, 3, 0, 1) = BAD", "copy(3, -1, 0, 9, 1) = NULL", "copy(0, 9, 3, -1, 1) = NULL",
            "copy(3, 0, 3, 0, 0) = NULL", "copy(0, 9, 1, -1, 1) = CAST", "copy(1, 0, 0, 0, 1) = CAST", "copy(1, 0, 2, 0, 0) = CAST", "copy(0, 0, 0, 1, 3) = INDEX",
            "copy(0, 1, 0, 0, 3) = INDEX", "copy(0, 0, 0, 1, -1) = INDEX", "copy(0, -1, 0, 1, 1) = INDEX", "copy(0, 0, 0, -1, 1) = INDEX", "copy(2, 0, 2, 0, 1) = INDEX",
            "copy(1, 1, 1, 0, MAX) = INDEX", "copy(1, MAX, 1, 0, 1) = INDEX", "copy(1, 0, 1, MAX, MAX) = INDEX", "copy(1, 25, 1, 0, 0) = INDEX");
        refused(States.FULL, "copy(2, 0, 3, 1, 24) = INDEX", "copy(2, 1, 3, 0, 24) = INDEX", "copy(2, 0, 3, 0, 25) = INDEX", "copy(0, 0, 1, 0, 25) = CAST");
    }
}
