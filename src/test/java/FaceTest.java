import java.lang.reflect.Constructor;
import java.lang.reflect.Field;
import java.lang.reflect.Method;
import java.lang.reflect.Modifier;
import java.util.TreeSet;

/** The face is the document's and nothing more. */
final class FaceTest {
    private static final String FACE = "accept():int append(int):int candidate(int):int clashing():int clearText():int "
        + "digest():long display(int):int erase():int letter(int,int):int load():int mode(boolean):int next():int "
        + "open(int):int pause():int place(int):int press(int):int presses(int,boolean):int saving():double "
        + "setWays(boolean,int):int setting(int):int shortest(int):int steps(int):int undo():int word(int,int):int "
        + "written(int,int):int";

    private FaceTest() {
    }

    public static void main(String[] args) {
        TreeSet<String> shown = new TreeSet<>();
        TreeSet<String> shownNames = new TreeSet<>();
        TreeSet<String> hiddenNames = new TreeSet<>();
        for (Method method : KeypadWriter.class.getDeclaredMethods()) {
            if (Modifier.isPrivate(method.getModifiers())) {
                hiddenNames.add(method.getName());
            } else {
                shown.add(signature(method));
                shownNames.add(method.getName());
            }
        }
        Checks.due("methods", FACE, String.join(" ", shown));
        hiddenNames.retainAll(shownNames);
        Checks.due("private methods with a public name", "", String.join(" ", hiddenNames));
        Checks.due("fields", "NONE", String.join(" ", shownFields()));
        Checks.due("NONE", -1, KeypadWriter.NONE);
        Checks.due("constructors", 1, KeypadWriter.class.getDeclaredConstructors().length);
        for (Constructor<?> constructor : KeypadWriter.class.getDeclaredConstructors()) {
            Checks.due("parameters of the constructor", 0, constructor.getParameterCount());
            Checks.due("the constructor is public", 1, Modifier.isPublic(constructor.getModifiers()) ? 1 : 0);
        }
        int kind = KeypadWriter.class.getModifiers();
        Checks.due("public and final", 1, Modifier.isPublic(kind) && Modifier.isFinal(kind) ? 1 : 0);
        Checks.finish("FaceTest");
    }

    private static TreeSet<String> shownFields() {
        TreeSet<String> names = new TreeSet<>();
        for (Field field : KeypadWriter.class.getDeclaredFields()) {
            if (!Modifier.isPrivate(field.getModifiers())) {
                names.add(field.getName());
            }
        }
        return names;
    }

    private static String signature(Method method) {
        StringBuilder text = new StringBuilder(method.getName()).append('(');
        for (Class<?> type : method.getParameterTypes()) {
            text.append(text.charAt(text.length() - 1) == '(' ? "" : ",").append(type.getName());
        }
        return text.append("):").append(method.getReturnType().getName()).toString();
    }
}
