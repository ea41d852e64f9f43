import java.io.IOException;
import java.lang.reflect.Field;
import java.lang.reflect.Method;
import java.lang.reflect.Modifier;
import java.nio.file.Files;
import java.nio.file.Path;
import java.util.ArrayList;
import java.util.List;
import java.util.regex.Matcher;
import java.util.regex.Pattern;
import java.util.stream.Stream;

/**
 * README.md: its program and its commands are tried in a copy of the project, and its tables are compared with the
 * class. It runs in the project's folder.
 */
public final class ReadmeTest {
    private static final Path SHARED = Path.of("../shared");

    private static int wrong = 0;

    public static void main(String[] args) throws IOException, InterruptedException, IllegalAccessException {
        String readme = Files.readString(Path.of("README.md"));
        commands(readme);
        methods(readme);
        constants(readme);
        settings(readme);
        tests(readme);
        System.out.println("README.md: " + wrong + " wrong");
        if (wrong != 0) {
            System.exit(1);
        }
    }

    private static void check(boolean right, String what) {
        if (!right) {
            wrong++;
            System.out.println("README.md, not so: " + what);
        }
    }

    /** What stands between the marks of a block of this kind. */
    private static List<String> blocks(String readme, String kind) {
        List<String> all = new ArrayList<>();
        Matcher block = Pattern.compile("(?s)```" + kind + "\n(.*?)```").matcher(readme);
        while (block.find()) {
            all.add(block.group(1));
        }
        return all;
    }

    private static void commands(String readme) throws IOException, InterruptedException {
        List<String> programs = blocks(readme, "java");
        List<String> commands = blocks(readme, "sh");
        List<String> printed = blocks(readme, "text");
        check(programs.size() == 1 && printed.size() == 1 && commands.size() == 3, "one program, what it prints, and three blocks of commands");
        if (wrong != 0) {
            return;
        }
        Path place = Files.createTempDirectory("readme");
        Path project = Files.createDirectory(place.resolve("project"));
        Files.createSymbolicLink(project.resolve("src"), Path.of("src").toRealPath());
        Files.createSymbolicLink(place.resolve("shared"), SHARED.toRealPath());
        Files.writeString(project.resolve("Evening.java"), programs.get(0));
        check(run(project, commands.get(0)).equals(printed.get(0) + "exit 0"), "the program prints what is said");
        for (String command : commands.subList(1, commands.size())) {
            String answer = run(project, command);
            check(answer.endsWith("exit 0"), command + answer);
        }
        delete(place);
    }

    /** What the commands print, with their exit code behind it. */
    private static String run(Path place, String commands) throws IOException, InterruptedException {
        Process process = new ProcessBuilder("bash", "-e", "-c", commands).directory(place.toFile()).redirectErrorStream(true).start();
        String printed = new String(process.getInputStream().readAllBytes());
        return printed + "exit " + process.waitFor();
    }

    private static void delete(Path place) throws IOException {
        if (Files.isDirectory(place) && !Files.isSymbolicLink(place)) {
            List<Path> inside;
            try (Stream<Path> all = Files.list(place)) {
                inside = all.toList();
            }
            for (Path path : inside) {
                delete(path);
            }
        }
        Files.delete(place);
    }

    /** Each promise has its row, with as many arguments as the method has. */
    private static void methods(String readme) throws IOException {
        check(readme.contains("| 1 | `new VerseSetter()` |"), "the constructor is told");
        String document = Files.readString(SHARED.resolve("DOC.md"));
        int rows = 0;
        for (Method method : VerseSetter.class.getDeclaredMethods()) {
            if (!Modifier.isPublic(method.getModifiers())) {
                continue;
            }
            String arguments = method.getParameterCount() == 0 ? "" : "\\w+(, \\w+){" + (method.getParameterCount() - 1) + "}";
            Matcher row = Pattern.compile("\\| (\\d+) \\| `" + method.getName() + "\\(" + arguments + "\\)` \\|").matcher(readme);
            check(row.find() && document.contains("## Promise " + row.group(1) + ": " + method.getName() + "\n"), method + " is told");
            rows++;
        }
        check(rows == 25, "25 methods were looked for");
    }

    private static void constants(String readme) throws IllegalAccessException {
        for (Field field : VerseSetter.class.getDeclaredFields()) {
            if (Modifier.isPublic(field.getModifiers())) {
                check(readme.contains("| `" + field.getName() + "` | " + field.getInt(null) + " |"), field + " is told");
            }
        }
    }

    private static void settings(String readme) {
        Matcher row = Pattern.compile("\\| (\\d) \\| [A-Z]+ \\| (\\d+) to (\\d+) \\| (\\d+) \\|").matcher(readme);
        int rows = 0;
        while (row.find()) {
            int what = Integer.parseInt(row.group(1));
            int least = Integer.parseInt(row.group(2));
            int most = Integer.parseInt(row.group(3));
            VerseSetter setter = new VerseSetter();
            check(what == rows && setter.count(what) == Integer.parseInt(row.group(4)), "at first, of setting " + what);
            check(setter.tell(what, least - 1) == VerseSetter.BAD && setter.tell(what, most + 1) == VerseSetter.BAD, "range of setting " + what);
            check(setter.tell(what, least) != VerseSetter.BAD && setter.tell(what, most) != VerseSetter.BAD, "values of setting " + what);
            rows++;
        }
        check(rows == 7, "seven settings are told");
    }

    private static void tests(String readme) throws IOException {
        try (Stream<Path> files = Files.list(Path.of("src/test/java"))) {
            for (String name : files.map(file -> file.getFileName().toString().replace(".java", "")).toList()) {
                check(!name.endsWith("Test") || readme.contains("`" + name + "`"), "the test " + name + " is told");
            }
        }
    }
}
