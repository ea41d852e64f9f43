import java.io.IOException;
import java.util.List;

/** Tests of single sentences of the document: each one says which sentence it is of, in the document's own words. */
final class Boundary {
    private final Document document;
    private final Script script = new Script();

    Boundary() throws IOException {
        document = new Document();
    }

    /** The section has this sentence, and each of the texts (see Script) gets the answers that are due by it. */
    void holds(String section, String sentence, String... texts) {
        String name = quote(section, sentence);
        for (String text : texts) {
            script.run(name, text);
        }
    }

    /** After these calls (see Script), the call has this answer. */
    void answers(String section, String sentence, String past, Call call, long due) {
        String name = quote(section, sentence);
        VerseSetter setter = new VerseSetter();
        Script.make(past, setter);
        script.due(name + " after " + past + ": " + call, call.on(setter), due);
    }

    /** After the same past, an object answers alike whether it has refused these calls or not. */
    void alike(String section, String sentence, String past, List<Call> refused) {
        String name = quote(section, sentence);
        script.due(name + " after " + past + ", part of the answers that differs after " + refused, Twins.differ(past, refused), -1);
    }

    private String quote(String section, String sentence) {
        script.due(section + " has the sentence: " + sentence, document.says(section, sentence) ? 1 : 0, 1);
        return section + ", \"" + sentence + "\"";
    }

    /** No sentence of the section is without a test. */
    void everySentence(String section) {
        script.due("the document has the section " + section, document.names().contains(section) ? 1 : 0, 1);
        for (String sentence : document.unquoted(section)) {
            script.due(section + ", a test of \"" + sentence + "\"", 0, 1);
        }
    }

    void end() {
        script.end();
    }
}
