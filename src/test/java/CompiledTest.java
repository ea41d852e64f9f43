import java.io.PrintWriter;
import java.io.StringWriter;
import java.util.ArrayList;
import java.util.HashMap;
import java.util.List;
import java.util.Map;
import java.util.Set;
import java.util.TreeSet;
import java.util.regex.Matcher;
import java.util.regex.Pattern;
import java.util.spi.ToolProvider;

/**
 * What of LANGUAGE.md can be seen in the compiled class: what it takes of the library (rule 4), that it throws and
 * catches nothing (rule 6), and that its calls are no recursion and go at most eight deep (rules 8 and 11).
 */
public final class CompiledTest {
    private static final int DEEPEST = 8;

    /** What this class needs of what rule 4 allows. */
    private static final Set<String> LIBRARY = Set.of("java/lang/Object.<init>", "java/lang/Integer.bitCount", "java/lang/Math.max",
        "java/lang/Math.min", "java/lang/System.arraycopy", "java/util/Arrays.fill");

    private static final Pattern HEAD = Pattern.compile("^  (?:[^ ]+ )*([\\w$]+)\\([^()]*\\);$");
    private static final Pattern STATIC_HEAD = Pattern.compile("^  static \\{\\};$");
    private static final Pattern CALL = Pattern.compile("// (?:Interface)?Method (?:([\\w$/]+)\\.)?\"?([\\w<>$]+)\"?:");
    private static final Pattern FORBIDDEN = Pattern.compile("\\b(athrow|monitorenter|invokedynamic|invokeinterface|Exception table)\\b");

    private static int wrong = 0;
    private final Map<String, Set<String>> calls = new HashMap<>();

    public static void main(String[] args) {
        CompiledTest test = new CompiledTest();
        test.readClass("VerseSetter");
        for (Class<?> inside : VerseSetter.class.getDeclaredClasses()) {
            test.readClass(inside.getName());
        }
        int deepest = 0;
        for (String method : test.calls.keySet()) {
            deepest = Math.max(deepest, test.depth(method, new ArrayList<>()));
        }
        if (test.calls.size() < 60 || deepest < 2) {
            report("only " + test.calls.size() + " methods were found in it, " + deepest + " deep");
        }
        System.out.println("the compiled class: " + test.calls.size() + " methods, " + deepest + " deep, " + wrong + " wrong");
        if (wrong != 0) {
            System.exit(1);
        }
    }

    private static void report(String what) {
        wrong++;
        System.out.println("the compiled class: " + what);
    }

    private void readClass(String name) {
        StringWriter text = new StringWriter();
        PrintWriter writer = new PrintWriter(text);
        ToolProvider.findFirst("javap").orElseThrow().run(writer, writer, "-c", "-p", "-cp", System.getProperty("java.class.path"), name);
        String method = "";
        for (String line : text.toString().split("\\R")) {
            Matcher head = HEAD.matcher(line);
            if (head.find()) {
                method = name + "." + (head.group(1).equals(name) ? "<init>" : head.group(1));
                calls.putIfAbsent(method, new TreeSet<>());
            } else if (STATIC_HEAD.matcher(line).find()) {
                method = name + ".<clinit>";
                calls.putIfAbsent(method, new TreeSet<>());
            }
            readLine(name, method, line);
        }
    }

    private void readLine(String owner, String method, String line) {
        Matcher forbidden = FORBIDDEN.matcher(line);
        if (forbidden.find()) {
            report(method + " has " + forbidden.group());
        }
        Matcher call = CALL.matcher(line);
        if (!call.find()) {
            return;
        }
        String target = (call.group(1) == null ? owner : call.group(1)) + "." + call.group(2);
        if (target.startsWith("VerseSetter")) {
            calls.get(method).add(target);
        } else if (!LIBRARY.contains(target)) {
            report(method + " calls " + target);
        }
    }

    /** How many calls are open at most while this one is, itself included. */
    private int depth(String method, List<String> open) {
        if (open.contains(method)) {
            report(method + " calls itself: " + open);
            return 1;
        }
        open.add(method);
        if (open.size() > DEEPEST) {
            report("more than " + DEEPEST + " deep: " + open);
        }
        int deepest = 0;
        for (String target : calls.getOrDefault(method, Set.of())) {
            deepest = Math.max(deepest, depth(target, open));
        }
        open.remove(open.size() - 1);
        return deepest + 1;
    }
}
