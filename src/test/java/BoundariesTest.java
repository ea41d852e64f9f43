import java.io.IOException;
import java.util.Map;

/**
 * Every sentence of the document that names a boundary has a test of its own, which quotes it; in the end, each
 * sentence must have been quoted, but for those that name no boundary. It runs in the project's folder.
 */
public final class BoundariesTest {
    private static final String[] PARTS = {"Lines and words", "Breaking lines", "Pages", "Texts", "Undo", "Sheets", "Errors"};

    /** By the number of the promise: a sentence that says what the method does, and names no boundary. */
    private static final Map<Integer, String> WITHOUT_BOUNDARY = Map.ofEntries(
        Map.entry(5, "Sets the rhyme of a line."), Map.entry(6, "Changes a setting."), Map.entry(7, "Returns a property of a line."),
        Map.entry(8, "Returns a property of a word."), Map.entry(9, "Returns a number."), Map.entry(10, "Returns a property of a page."),
        Map.entry(11, "Returns a property of a stanza."), Map.entry(12, "Returns how many layouts a line has."),
        Map.entry(14, "Appends a character to the tape."), Map.entry(16, "Makes n random turns."), Map.entry(18, "Sets the random number."),
        Map.entry(19, "Returns 1."), Map.entry(21, "Checks a distribution to pages: n elements of a sheet are the numbers of lines on the pages"),
        Map.entry(24, "Makes a sheet empty."), Map.entry(25, "Sets an element."));

    public static void main(String[] args) throws IOException {
        Boundary boundary = new Boundary();
        new LineBoundaries(boundary).all();
        new LayoutBoundaries(boundary).all();
        new PageBoundaries(boundary).all();
        new StanzaBoundaries(boundary).all();
        new TextBoundaries(boundary).all();
        new ActionBoundaries(boundary).all();
        new SheetBoundaries(boundary).all();
        new RefusedCalls(boundary).all();
        everySentence(boundary);
        boundary.end();
    }

    private static void everySentence(Boundary boundary) {
        for (String part : PARTS) {
            boundary.everySentence(part);
        }
        for (int promise = 1; promise <= 26; promise++) {
            String section = "Promise " + promise;
            if (WITHOUT_BOUNDARY.containsKey(promise)) {
                boundary.holds(section, WITHOUT_BOUNDARY.get(promise));
            }
            boundary.everySentence(section);
        }
    }
}
