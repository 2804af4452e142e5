import java.lang.reflect.Field;
import java.lang.reflect.Method;
import java.lang.reflect.Modifier;
import java.util.Arrays;
import java.util.Set;
import java.util.TreeSet;

/** The public face is the document's, and fields and methods keep to what LANGUAGE.md says of them. */
public final class FaceTest {
    private static final Set<String> FACE = Set.of(
        "int require(int, int, int)",
        "int effect(int, int, int, int)",
        "int forget(int)",
        "void want(int, int)",
        "void observe(int)",
        "int now()",
        "int price()",
        "int steps()",
        "int planned(int)",
        "int advance()",
        "int act(int)",
        "int reachable()");

    public static void main(String[] args) {
        Class<?> face = ActionPlanner.class;
        Check.isTrue("public and final", face.getModifiers() == (Modifier.PUBLIC | Modifier.FINAL));
        Check.isTrue("no package", face.getPackageName().isEmpty());
        Check.isTrue("extends nothing", face.getSuperclass() == Object.class && face.getInterfaces().length == 0);
        Check.due("nested classes", face.getDeclaredClasses().length, 0);
        Check.due("constructors", face.getDeclaredConstructors().length, 1);
        Check.due("public constructors without parameters",
            Arrays.stream(face.getConstructors()).filter(c -> c.getParameterCount() == 0).count(), 1);
        methods(face);
        fields(face);
        Check.end();
    }

    private static void methods(Class<?> face) {
        Set<String> seen = new TreeSet<>();
        Set<String> publicNames = new TreeSet<>();
        for (Method method : face.getDeclaredMethods()) {
            if (method.getModifiers() == Modifier.PUBLIC) {
                seen.add(signature(method));
                publicNames.add(method.getName());
            }
        }
        Check.isTrue("the face is " + seen, seen.equals(FACE));
        for (Method method : face.getDeclaredMethods()) {
            if (method.getModifiers() != Modifier.PUBLIC) {
                Check.isTrue("private: " + method, Modifier.isPrivate(method.getModifiers()));
                Check.isTrue("a name of its own: " + method, !publicNames.contains(method.getName()));
                Check.isTrue("answers no array: " + method, method.getReturnType().isPrimitive());
            }
            Check.isTrue("at most seven parameters: " + method, method.getParameterCount() <= 7);
            Check.isTrue("no synchronized: " + method, !Modifier.isSynchronized(method.getModifiers()));
        }
    }

    private static String signature(Method method) {
        String types = Arrays.toString(Arrays.stream(method.getParameterTypes()).map(Class::getName).toArray());
        return method.getReturnType().getName() + " " + method.getName() + "("
            + types.substring(1, types.length() - 1) + ")";
    }

    private static void fields(Class<?> face) {
        for (Field field : face.getDeclaredFields()) {
            Class<?> type = field.getType();
            Class<?> element = type.isArray() ? type.getComponentType() : type;
            Check.isTrue("private: " + field, Modifier.isPrivate(field.getModifiers()));
            Check.isTrue("a number or an array of them: " + field,
                element.isPrimitive() && element != float.class && element != double.class);
            if (Modifier.isStatic(field.getModifiers())) {
                Check.isTrue("a constant: " + field, Modifier.isFinal(field.getModifiers()));
                Check.isTrue("of int or long: " + field, type == int.class || type == long.class);
            }
        }
    }
}
