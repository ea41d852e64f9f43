import java.io.IOException;
import java.lang.reflect.Constructor;
import java.lang.reflect.Field;
import java.lang.reflect.Method;
import java.lang.reflect.Modifier;
import java.util.HashMap;
import java.util.Map;
import java.util.Set;
import java.util.TreeSet;
import java.util.regex.Matcher;
import java.util.regex.Pattern;

/**
 * The public face, as it stands in ../shared/DOC.md, and what LANGUAGE.md says of members and classes (rules 1, 2, 5
 * and 11). It runs in the project's folder.
 */
public final class FaceTest {
    private static final Map<String, Integer> CONSTANTS = new HashMap<>();
    private static final Set<String> METHODS = new TreeSet<>();
    private static final Set<String> METHOD_NAMES = new TreeSet<>();

    private static int wrong = 0;

    public static void main(String[] args) throws IllegalAccessException, IOException {
        readFace(new Document().text("The public face"));
        check(VerseSetter.class.getModifiers() == (Modifier.PUBLIC | Modifier.FINAL), "the class is public and final");
        constructors();
        methods();
        fields();
        classesInside();
        System.out.println("the face: " + wrong + " wrong");
        if (wrong != 0) {
            System.exit(1);
        }
    }

    /** Takes the constants and the methods from the document; both are counted, lest none be found. */
    private static void readFace(String face) {
        Matcher constant = Pattern.compile("([A-Z]+) = (-?\\d+)[,;]").matcher(face);
        while (constant.find()) {
            CONSTANTS.put(constant.group(1), Integer.valueOf(constant.group(2)));
        }
        Matcher method = Pattern.compile("public (int|long) (\\w+)\\(([^()]*)\\);").matcher(face);
        while (method.find()) {
            // Of each parameter the type alone is kept.
            METHODS.add(method.group(1) + " " + method.group(2) + "(" + method.group(3).replaceAll(" \\w+(, )?", "$1").replace(", ", ",") + ")");
            METHOD_NAMES.add(method.group(2));
        }
        check(CONSTANTS.size() == 8, "the document has 8 constants: " + CONSTANTS);
        check(METHODS.size() == 25 && METHOD_NAMES.size() == 25, "the document has 25 methods, whose promises are 2 to 26: " + METHODS);
    }

    private static void check(boolean right, String what) {
        if (!right) {
            wrong++;
            System.out.println("not so: " + what);
        }
    }

    private static void constructors() {
        Constructor<?>[] all = VerseSetter.class.getDeclaredConstructors();
        check(all.length == 1 && all[0].getParameterCount() == 0 && Modifier.isPublic(all[0].getModifiers()), "one public constructor");
    }

    private static String signature(Method method) {
        StringBuilder text = new StringBuilder(method.getReturnType() + " " + method.getName() + "(");
        for (Class<?> type : method.getParameterTypes()) {
            text.append(text.charAt(text.length() - 1) == '(' ? "" : ",").append(type);
        }
        return text.append(")").toString();
    }

    private static void methods() {
        Set<String> visible = new TreeSet<>();
        for (Method method : VerseSetter.class.getDeclaredMethods()) {
            if (Modifier.isPrivate(method.getModifiers())) {
                checkInside(method);
            } else {
                visible.add(signature(method));
                check(method.getModifiers() == Modifier.PUBLIC, method.getName() + " is public, and nothing else");
            }
        }
        check(visible.equals(METHODS), "the methods are those of the document: " + visible);
    }

    private static void fields() throws IllegalAccessException {
        int constants = 0;
        for (Field field : VerseSetter.class.getDeclaredFields()) {
            if (!Modifier.isPrivate(field.getModifiers())) {
                constants++;
                Integer due = CONSTANTS.get(field.getName());
                check(due != null && field.getModifiers() == (Modifier.PUBLIC | Modifier.STATIC | Modifier.FINAL)
                        && field.getType() == int.class && field.getInt(null) == due, "the constant " + field.getName());
            }
        }
        check(constants == CONSTANTS.size(), "all constants are there");
        checkFields(VerseSetter.class);
    }

    private static void classesInside() {
        Class<?>[] all = VerseSetter.class.getDeclaredClasses();
        check(all.length < 12, "the file has at most some twelve classes");
        for (Class<?> inside : all) {
            check(Modifier.isStatic(inside.getModifiers()), inside + " is static");
            check(Modifier.isPrivate(inside.getModifiers()), inside + " is private");
            checkFields(inside);
            for (Method method : inside.getDeclaredMethods()) {
                checkInside(method);
            }
        }
    }

    private static void checkFields(Class<?> owner) {
        int fields = 0;
        for (Field field : owner.getDeclaredFields()) {
            if (Modifier.isStatic(field.getModifiers())) {
                check(Modifier.isFinal(field.getModifiers()), field + " is final");
            } else {
                fields++;
            }
        }
        check(fields <= 20, owner + " has at most some twenty fields");
    }

    private static void checkInside(Method method) {
        check(method.getParameterCount() <= 7, method + " has at most seven parameters");
        check(!METHOD_NAMES.contains(method.getName()), method + " bears no name of a public method");
    }
}
