import java.lang.reflect.Constructor;
import java.lang.reflect.Field;
import java.lang.reflect.Member;
import java.lang.reflect.Method;
import java.lang.reflect.Modifier;
import java.util.TreeMap;
import java.util.TreeSet;

/** The face is the document's and nothing more: its kinds, its signatures and the exceptions that they name. */
final class FaceTest {
    private static final String[] FACE = {
        "public int accept() throws IllegalStateException",
        "public int append(int) throws IllegalArgumentException, IllegalStateException",
        "public int candidate(int) throws IndexOutOfBoundsException",
        "public int clashing()",
        "public int clearText()",
        "public long digest()",
        "public int display(int) throws IllegalArgumentException",
        "public int erase() throws IllegalStateException",
        "public int letter(int, int) throws IndexOutOfBoundsException",
        "public int load()",
        "public int mode(boolean)",
        "public int next() throws IllegalStateException",
        "public int open(int) throws IndexOutOfBoundsException, IllegalStateException",
        "public int pause()",
        "public int place(int) throws IndexOutOfBoundsException",
        "public int press(int) throws IllegalArgumentException, IllegalStateException",
        "public int presses(int, boolean) throws IndexOutOfBoundsException",
        "public double saving()",
        "public int setWays(boolean, int) throws IllegalArgumentException",
        "public int setting(int) throws IllegalArgumentException",
        "public int shortest(int) throws IndexOutOfBoundsException",
        "public int steps(int) throws IndexOutOfBoundsException",
        "public int undo() throws IllegalStateException",
        "public int word(int, int) throws IndexOutOfBoundsException, IllegalArgumentException",
        "public int written(int, int) throws IndexOutOfBoundsException"
    };

    private FaceTest() {
    }

    public static void main(String[] args) {
        methods();
        fieldsAndConstructors();
        innerClasses();
        Checks.due("the class", "public final", Modifier.toString(KeypadWriter.class.getModifiers()));
        Checks.finish("FaceTest");
    }

    private static void methods() {
        TreeMap<String, String> shown = new TreeMap<>();
        TreeSet<String> hidden = new TreeSet<>();
        collect(KeypadWriter.class, shown, hidden);
        Checks.due("methods", String.join("\n", FACE), String.join("\n", shown.values()));
        hidden.retainAll(shown.keySet());
        Checks.due("private methods with a public name", "", String.join(" ", hidden));
    }

    private static void collect(Class<?> of, TreeMap<String, String> shown, TreeSet<String> hidden) {
        for (Method method : of.getDeclaredMethods()) {
            if (Modifier.isPrivate(method.getModifiers())) {
                hidden.add(method.getName());
            } else {
                shown.put(method.getName(), signature(method));
            }
        }
    }

    private static void fieldsAndConstructors() {
        TreeSet<String> shown = new TreeSet<>();
        for (Field field : KeypadWriter.class.getDeclaredFields()) {
            if (!Modifier.isPrivate(field.getModifiers())) {
                shown.add(kind(field) + " " + field.getType() + " " + field.getName());
            }
        }
        for (Constructor<?> constructor : KeypadWriter.class.getDeclaredConstructors()) {
            shown.add(kind(constructor) + " constructor" + listed(constructor.getParameterTypes())
                + listed(constructor.getExceptionTypes()));
        }
        Checks.due("fields and constructors", "public constructor()()\npublic static final int NONE",
            String.join("\n", shown));
        Checks.due("NONE", -1, KeypadWriter.NONE);
    }

    private static void innerClasses() {
        TreeSet<String> hidden = new TreeSet<>();
        TreeMap<String, String> shown = new TreeMap<>();
        collect(KeypadWriter.class, shown, new TreeSet<>());
        for (Class<?> inner : KeypadWriter.class.getDeclaredClasses()) {
            int modifiers = inner.getModifiers();
            Checks.due(inner + " is not shown", 0, modifiers & (Modifier.PUBLIC | Modifier.PROTECTED));
            Checks.due(inner + " is static", 1, Modifier.isStatic(modifiers) ? 1 : 0);
            collect(inner, new TreeMap<>(), hidden);
        }
        hidden.retainAll(shown.keySet());
        Checks.due("private methods of inner classes with a public name", "", String.join(" ", hidden));
    }

    private static String signature(Method method) {
        String exceptions = listed(method.getExceptionTypes());
        return kind(method) + " " + method.getReturnType() + " " + method.getName() + listed(method.getParameterTypes())
            + (exceptions.equals("()") ? "" : " throws " + exceptions.substring(1, exceptions.length() - 1));
    }

    private static String kind(Member member) {
        return Modifier.toString(member.getModifiers());
    }

    private static String listed(Class<?>[] types) {
        StringBuilder text = new StringBuilder("(");
        for (Class<?> type : types) {
            text.append(text.length() == 1 ? "" : ", ").append(type.getSimpleName());
        }
        return text.append(')').toString();
    }
}
