import java.io.IOException;
import java.util.regex.Matcher;
import java.util.regex.Pattern;

/** The document's examples, call by call, as they stand in ../shared/DOC.md. It runs in the project's folder. */
public final class ExamplesTest {
    private static final int EXAMPLES = 4;
    private static final Pattern ANSWERED = Pattern.compile("[a-z]+\\([^()]*\\) = -?\\d+");

    public static void main(String[] args) throws IOException {
        Script script = new Script();
        String text = new Document().text("Examples").replace('\n', ' ').strip();
        // An example begins with its number, a point and a title, after the point that ends the one before it.
        String[] examples = text.split("(?:^|(?<=\\. ))\\d\\. (?=[A-Z])");
        script.due("examples in the document", examples.length - 1, EXAMPLES);
        for (int n = 1; n < examples.length; n++) {
            example(script, "example " + n, examples[n]);
        }
        script.end();
    }

    private static void example(Script script, String name, String text) {
        StringBuilder calls = new StringBuilder();
        int number = 0;
        Matcher found = ANSWERED.matcher(text);
        while (found.find()) {
            calls.append(found.group()).append("; ");
            number++;
        }
        // Each of its answers was found: there is an equals sign nowhere else.
        script.due(name + ", calls that were found", number, text.chars().filter(c -> c == '=').count());
        script.run(name, calls.toString());
    }
}
