import java.lang.reflect.Constructor;
import java.lang.reflect.Field;
import java.lang.reflect.Method;
import java.lang.reflect.Modifier;
import java.util.Arrays;
import java.util.TreeSet;

/** The face of the class: what the document writes there, and nothing else. */
final class FaceTest {
    private static final String[] FACE = {
        "KeptMoving()",
        "int NONE", "int UNKNOWN", "int OUTSIDE", "int NOT", "int FULL",
        "int point(int, int)", "int speed(int, int)", "int gone(int)", "int go(int)", "int back(int)",
        "int count(int)", "int told(int, int)", "long place(int, int, int, int)", "int order(int, int, int)",
        "int kept(int)", "int at(int, int, int, int)", "int meeting(int, int)",
        "int near(int, int, int, int, int, int)", "int first(int, int, int, int)",
        "int within(int, int, int, int, int, int)",
    };

    public static void main(String[] args) {
        Check check = new Check("FaceTest");
        check.due("NONE", KeptMoving.NONE, -1);
        check.due("UNKNOWN", KeptMoving.UNKNOWN, -100001);
        check.due("OUTSIDE", KeptMoving.OUTSIDE, -100002);
        check.due("NOT", KeptMoving.NOT, -100003);
        check.due("FULL", KeptMoving.FULL, -100004);
        check.dueText("what is not private", openMembers().toString(), new TreeSet<>(Arrays.asList(FACE)).toString());
        check.due("modifiers of the class", KeptMoving.class.getModifiers(), Modifier.PUBLIC | Modifier.FINAL);
        checkNames(check);
        check.end();
    }

    private static TreeSet<String> openMembers() {
        TreeSet<String> open = new TreeSet<>();
        for (Constructor<?> constructor : KeptMoving.class.getDeclaredConstructors()) {
            open.add("KeptMoving(" + types(constructor.getParameterTypes()) + ")");
        }
        for (Field field : KeptMoving.class.getDeclaredFields()) {
            if (!Modifier.isPrivate(field.getModifiers())) {
                open.add(field.getType().getName() + " " + field.getName());
            }
        }
        for (Method method : KeptMoving.class.getDeclaredMethods()) {
            if (!Modifier.isPrivate(method.getModifiers())) {
                open.add(method.getReturnType().getName() + " " + method.getName()
                        + "(" + types(method.getParameterTypes()) + ")");
            }
        }
        return open;
    }

    private static String types(Class<?>[] types) {
        StringBuilder text = new StringBuilder();
        for (Class<?> type : types) {
            text.append(text.length() == 0 ? "" : ", ").append(type.getName());
        }
        return text.toString();
    }

    /** LANGUAGE.md, rules 1, 2 and 11: inner classes are static, no private method has a public name, few parameters. */
    private static void checkNames(Check check) {
        TreeSet<String> names = new TreeSet<>();
        for (Method method : KeptMoving.class.getMethods()) {
            names.add(method.getName());
        }
        checkMethods(check, KeptMoving.class, names);
        for (Class<?> inner : KeptMoving.class.getDeclaredClasses()) {
            check.due(inner + " is static", Modifier.isStatic(inner.getModifiers()) ? 1 : 0, 1);
            checkMethods(check, inner, names);
        }
    }

    private static void checkMethods(Check check, Class<?> type, TreeSet<String> names) {
        for (Method method : type.getDeclaredMethods()) {
            boolean isAnothersName = !Modifier.isPublic(method.getModifiers()) && names.contains(method.getName());
            check.due(method + " bears a public name", isAnothersName ? 1 : 0, 0);
            check.due(method + " has too many parameters", method.getParameterCount() > 7 ? 1 : 0, 0);
        }
    }
}
