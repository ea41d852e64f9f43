import java.lang.reflect.Constructor;
import java.lang.reflect.Field;
import java.lang.reflect.Method;
import java.lang.reflect.Modifier;
import java.util.Map;
import java.util.Set;
import java.util.TreeSet;

/** The document's public face, and what LANGUAGE.md says of members and classes (rules 1, 2, 5 and 11). */
public final class FaceTest {
    private static final Map<String, Integer> CONSTANTS = Map.of("BAD", -1, "NOT", -2, "FULL", -3, "NONE", -4,
            "NULL", -11, "CAST", -12, "INDEX", -13, "SIZE", -14);

    private static final Set<String> METHODS = Set.of("int line(int,int)", "int word(int,int)", "int drop()", "int rhyme(int,int)",
            "int tell(int,int)", "int of(int,int)", "int said(int,int,int)", "int count(int)", "int page(int,int)", "long stanza(int,int)",
            "int settings(int)", "long whole(int,int)", "int type(int)", "int read()", "int drift(int)", "int undo()", "int seed(int)",
            "int image()", "int restore()", "int cuts(int,int,int,int)", "int film(int,int,int)", "int sheet(int,int,int)", "int lift(int)",
            "int item(int,int,int,long)", "int copy(int,int,int,int,int)");

    private static int wrong = 0;

    public static void main(String[] args) throws IllegalAccessException {
        check(VerseSetter.class.getModifiers() == (Modifier.PUBLIC | Modifier.FINAL), "the class is public and final");
        constructors();
        methods();
        fields();
        classesInside();
        System.out.println("the face: " + wrong + " wrong");
        if (wrong != 0) {
            System.exit(1);
        }
    }

    private static void check(boolean right, String what) {
        if (!right) {
            wrong++;
            System.out.println("not so: " + what);
        }
    }

    private static void constructors() {
        Constructor<?>[] all = VerseSetter.class.getDeclaredConstructors();
        check(all.length == 1 && all[0].getParameterCount() == 0 && Modifier.isPublic(all[0].getModifiers()), "one public constructor");
    }

    private static String signature(Method method) {
        StringBuilder text = new StringBuilder(method.getReturnType() + " " + method.getName() + "(");
        for (Class<?> type : method.getParameterTypes()) {
            text.append(text.charAt(text.length() - 1) == '(' ? "" : ",").append(type);
        }
        return text.append(")").toString();
    }

    private static void methods() {
        Set<String> visible = new TreeSet<>();
        for (Method method : VerseSetter.class.getDeclaredMethods()) {
            if (Modifier.isPrivate(method.getModifiers())) {
                checkInside(method);
            } else {
                visible.add(signature(method));
                check(method.getModifiers() == Modifier.PUBLIC, method.getName() + " is public, and nothing else");
            }
        }
        check(visible.equals(new TreeSet<>(METHODS)), "the methods are those of the document: " + visible);
    }

    private static void fields() throws IllegalAccessException {
        int constants = 0;
        for (Field field : VerseSetter.class.getDeclaredFields()) {
            if (!Modifier.isPrivate(field.getModifiers())) {
                constants++;
                Integer due = CONSTANTS.get(field.getName());
                check(due != null && field.getModifiers() == (Modifier.PUBLIC | Modifier.STATIC | Modifier.FINAL)
                        && field.getType() == int.class && field.getInt(null) == due, "the constant " + field.getName());
            }
        }
        check(constants == CONSTANTS.size(), "all constants are there");
        checkFields(VerseSetter.class);
    }

    private static void classesInside() {
        Class<?>[] all = VerseSetter.class.getDeclaredClasses();
        check(all.length < 12, "the file has at most some twelve classes");
        for (Class<?> inside : all) {
            check(Modifier.isStatic(inside.getModifiers()), inside + " is static");
            check(Modifier.isPrivate(inside.getModifiers()), inside + " is private");
            checkFields(inside);
            for (Method method : inside.getDeclaredMethods()) {
                checkInside(method);
            }
        }
    }

    private static void checkFields(Class<?> owner) {
        int fields = 0;
        for (Field field : owner.getDeclaredFields()) {
            if (Modifier.isStatic(field.getModifiers())) {
                check(Modifier.isFinal(field.getModifiers()), field + " is final");
            } else {
                fields++;
            }
        }
        check(fields <= 20, owner + " has at most some twenty fields");
    }

    private static void checkInside(Method method) {
        check(method.getParameterCount() <= 7, method + " has at most seven parameters");
        for (String due : METHODS) {
            check(!due.contains(" " + method.getName() + "("), method + " bears no name of a public method");
        }
    }
}
