import java.lang.reflect.Constructor;
import java.lang.reflect.Field;
import java.lang.reflect.Method;
import java.lang.reflect.Modifier;
import java.util.TreeSet;

/** The public face is the document's and nothing else, and the class holds no static state that changes. */
public final class FaceTest {
    private static final String[] FACE = {
        "BAD int", "FULL int", "NONE int", "ShortVectors()",
        "int add(int, int, int, int)", "boolean drop()", "int generators()", "int rank()", "long volume()",
        "boolean spare(int)", "boolean has(int, int, int, int)", "long order(int, int, int, int)",
        "int minimum(int)", "int count(int)", "int vector(int, int)", "int distance(int, int, int, int)",
        "int nearest(int, int, int, int, int)",
    };

    public static void main(String[] args) {
        TreeSet<String> wanted = new TreeSet<>(java.util.List.of(FACE));
        TreeSet<String> found = visibleMembers();
        boolean same = wanted.equals(found);
        if (!same) {
            System.out.println("the face is " + found + ", due is " + wanted);
        }
        boolean sealed = Modifier.isFinal(ShortVectors.class.getModifiers());
        if (!sealed) {
            System.out.println("the class is not final");
        }
        boolean steady = staticFieldsAreFinal();
        System.out.println(same && sealed && steady ? "the face is as due" : "the face is not as due");
        if (!same || !sealed || !steady) {
            System.exit(1);
        }
    }

    private static TreeSet<String> visibleMembers() {
        TreeSet<String> found = new TreeSet<>();
        for (Field field : ShortVectors.class.getDeclaredFields()) {
            if (!Modifier.isPrivate(field.getModifiers())) {
                found.add(field.getName() + " " + field.getType());
            }
        }
        for (Constructor<?> constructor : ShortVectors.class.getDeclaredConstructors()) {
            if (!Modifier.isPrivate(constructor.getModifiers())) {
                found.add("ShortVectors" + parameters(constructor.getParameterTypes()));
            }
        }
        for (Method method : ShortVectors.class.getDeclaredMethods()) {
            if (!Modifier.isPrivate(method.getModifiers())) {
                found.add(method.getReturnType() + " " + method.getName() + parameters(method.getParameterTypes()));
            }
        }
        return found;
    }

    private static String parameters(Class<?>[] types) {
        StringBuilder text = new StringBuilder("(");
        for (int i = 0; i < types.length; i++) {
            text.append(i == 0 ? "" : ", ").append(types[i]);
        }
        return text.append(")").toString();
    }

    private static boolean staticFieldsAreFinal() {
        boolean all = true;
        for (Field field : ShortVectors.class.getDeclaredFields()) {
            int modifiers = field.getModifiers();
            if (Modifier.isStatic(modifiers) && !Modifier.isFinal(modifiers)) {
                System.out.println("a static field that changes: " + field.getName());
                all = false;
            }
        }
        return all;
    }
}
