import java.io.IOException;
import java.nio.file.Files;
import java.nio.file.Path;
import java.util.regex.Matcher;
import java.util.regex.Pattern;

/** What of LANGUAGE.md can be seen in the words of the source: rules 3, 4, 6, 11 and 13. It runs in the project's folder. */
public final class LanguageTest {
    private static final Path SOURCE = Path.of("src/main/java/VerseSetter.java");

    /** Words and signs that the rules leave out, or that this class does without. */
    private static final String[] NOT_THERE = {"\\bthrows?\\b", "\\btry\\b", "\\bcatch\\b", "\\bfinally\\b", "\\bsynchronized\\b",
        "\\bassert\\b", "->", "::", "\\bpackage\\b", "\\bObject\\b", "\\bString\\b", "\\bdouble\\b", "\\bfloat\\b", "@", "\\bnative\\b",
        "\\bSystem\\.(?!arraycopy\\b)", "\\bArrays\\.(?!fill\\b)", "Exact\\b", "\\bstatic\\s*\\{", "\\bwhile\\s*\\(true\\)", "\\bvar\\b",
        "\\.(equals|hashCode|toString)\\b", "\\bMath\\.(?!min\\b|max\\b)", "\\bInteger\\.(?!bitCount\\b)", "\\[\\]\\s*\\["};

    private static int wrong = 0;

    public static void main(String[] args) throws IOException {
        String text = Files.readString(SOURCE);
        String code = text.replaceAll("(?s)/\\*.*?\\*/", "").replaceAll("//[^\n]*", "");
        for (String pattern : NOT_THERE) {
            Matcher found = Pattern.compile(pattern).matcher(code);
            if (found.find()) {
                report("it has " + found.group());
            }
        }
        Matcher imports = Pattern.compile("import ([^;]*);").matcher(code);
        while (imports.find()) {
            if (!imports.group(1).equals("java.util.Arrays")) {
                report("it imports " + imports.group(1));
            }
        }
        methodLengths(code);
        for (char c : text.toCharArray()) {
            if (c > 126) {
                report("it has the sign " + (int) c);
            }
        }
        System.out.println("the language: " + wrong + " wrong");
        if (wrong != 0) {
            System.exit(1);
        }
    }

    private static void report(String what) {
        wrong++;
        System.out.println(SOURCE + ": " + what);
    }

    /** A method begins at a line with its parameters and a brace, and ends at the brace with the same indentation. */
    private static void methodLengths(String code) {
        String[] lines = code.split("\n");
        int methods = 0;
        for (int from = 0; from < lines.length; from++) {
            Matcher head = Pattern.compile("^( {4}| {8})(?:[a-z]+ )*[A-Za-z\\[\\]]+(?: \\w+)?\\([^()]*\\) \\{$").matcher(lines[from]);
            if (!head.find()) {
                continue;
            }
            int to = from;
            while (to < lines.length && !lines[to].equals(head.group(1) + "}")) {
                to++;
            }
            methods++;
            if (to - from > 50) {
                report("a method of " + (to - from) + " lines: " + lines[from].trim());
            }
        }
        if (methods < 60) {
            report("only " + methods + " methods were found in it");
        }
    }
}
