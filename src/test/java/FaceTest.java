import java.lang.reflect.Constructor;
import java.lang.reflect.Field;
import java.lang.reflect.Method;
import java.lang.reflect.Modifier;
import java.util.Arrays;
import java.util.Set;
import java.util.TreeSet;

/** The public face, as the document prints it, and no member more that others could see. */
public final class FaceTest {
    private static final String A = " throws IllegalArgumentException";
    private static final String A_S = A + ", IllegalStateException";
    private static final String S_B = " throws IllegalStateException, IndexOutOfBoundsException";

    private static final Set<String> FACE = new TreeSet<>(Set.of(
            "NONE int",
            "new()",
            "void wires(int)" + A,
            "int gate(int, int, int, int, int)" + A_S,
            "int size(int)",
            "int gateAt(int, int)",
            "void clear(int)" + A,
            "int append(int, int)" + A_S,
            "int inverse(int)" + A_S,
            "int expand(int)" + A_S,
            "int optimise(int)" + A,
            "int least(int)" + A_S,
            "int equal(int, int)" + A,
            "int phase()",
            "int differ(int, int)" + A,
            "int state(int)" + A,
            "long amplitude(int, int)" + S_B,
            "int scale()",
            "long weight(int, int, int)" + S_B,
            "boolean measure(int, int)" + S_B,
            "int row(int, int)" + A_S,
            "int type(long, int)",
            "int print(int)" + A,
            "int character(int)",
            "int read(int)" + A,
            "int place()"));

    public static void main(String[] args) {
        Class<?> lab = RingCircuits.class;
        Set<String> seen = new TreeSet<>();
        Set<String> publicNames = new TreeSet<>();
        for (Field field : lab.getDeclaredFields()) {
            if (!Modifier.isPrivate(field.getModifiers())) {
                seen.add(field.getName() + " " + field.getType());
            }
        }
        for (Constructor<?> constructor : lab.getDeclaredConstructors()) {
            seen.add("new" + told(constructor.getParameterTypes(), constructor.getExceptionTypes()));
            Check.due("public constructor", Modifier.isPublic(constructor.getModifiers()), true);
        }
        for (Method method : lab.getDeclaredMethods()) {
            if (!Modifier.isPrivate(method.getModifiers())) {
                Check.due("public " + method.getName(), Modifier.isPublic(method.getModifiers()), true);
                seen.add(method.getReturnType() + " " + method.getName()
                        + told(method.getParameterTypes(), method.getExceptionTypes()));
                publicNames.add(method.getName());
            }
        }
        Check.due("the face", seen.toString(), FACE.toString());
        Check.due("public and final", lab.getModifiers() & (Modifier.PUBLIC | Modifier.FINAL),
                Modifier.PUBLIC | Modifier.FINAL);
        otherNames(lab, publicNames);
        Check.end();
    }

    private static String told(Class<?>[] parameters, Class<?>[] thrown) {
        return "(" + joined(parameters) + ")" + (thrown.length == 0 ? "" : " throws " + joined(thrown));
    }

    private static String joined(Class<?>[] types) {
        return String.join(", ", Arrays.stream(types).map(Class::getSimpleName).toList());
    }

    /** No method inside bears the name of a public one, and no static field can change. */
    private static void otherNames(Class<?> lab, Set<String> publicNames) {
        for (Class<?> inside : lab.getDeclaredClasses()) {
            Check.due(inside + " is static", Modifier.isStatic(inside.getModifiers()), true);
            for (Method method : inside.getDeclaredMethods()) {
                Check.due("own name " + method, publicNames.contains(method.getName()), false);
            }
            for (Field field : inside.getDeclaredFields()) {
                int modifiers = field.getModifiers();
                Check.due("final " + field, !Modifier.isStatic(modifiers) || Modifier.isFinal(modifiers), true);
            }
        }
    }
}
