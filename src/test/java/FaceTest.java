import java.lang.reflect.Constructor;
import java.lang.reflect.Field;
import java.lang.reflect.Method;
import java.lang.reflect.Modifier;
import java.util.Arrays;
import java.util.HashSet;
import java.util.List;
import java.util.Set;

/** The public face of the document, and the rules of LANGUAGE.md that the compiled class shows. */
public final class FaceTest {
    private static final List<String> FACE = List.of(
        "int make(int, int)", "int destroy(int)", "int move(int, int, int)", "int size(int, int)",
        "int raise(int, boolean)", "int show(int, boolean)", "int paint(int)",
        "int spoil(int, int, int, int)", "int owner(int, int)", "int dirty(int, int)", "int visible(int)");

    public static void main(String[] args) {
        Class<DamageScreen> face = DamageScreen.class;
        Check.isTrue("the class is public and final",
            Modifier.isPublic(face.getModifiers()) && Modifier.isFinal(face.getModifiers()));
        Check.due("nested classes", 0, face.getDeclaredClasses().length);
        Check.due("interfaces", 0, face.getInterfaces().length);
        constructors(face);
        methods(face);
        fields(face);
        Check.end();
    }

    private static void constructors(Class<?> face) {
        Constructor<?>[] all = face.getDeclaredConstructors();
        Check.due("constructors", 1, all.length);
        Check.isTrue("the constructor is public, without parameters",
            Modifier.isPublic(all[0].getModifiers()) && all[0].getParameterCount() == 0);
    }

    private static void methods(Class<?> face) {
        Set<String> open = new HashSet<>();
        Set<String> openNames = new HashSet<>();
        for (Method method : face.getDeclaredMethods()) {
            if (!Modifier.isPrivate(method.getModifiers())) {
                Check.isTrue(method + " is a plain public method", method.getModifiers() == Modifier.PUBLIC);
                open.add(textOf(method));
                openNames.add(method.getName());
            }
        }
        Check.isTrue("the public methods are those of the document: " + open, open.equals(new HashSet<>(FACE)));
        for (Method method : face.getDeclaredMethods()) {
            boolean closed = Modifier.isPrivate(method.getModifiers());
            Check.isTrue(method + " bears no public name", !closed || !openNames.contains(method.getName()));
            Check.isTrue(method + " has at most seven parameters", method.getParameterCount() <= 7);
            Check.isTrue(method + " is not synthetic", !method.isSynthetic());
        }
    }

    private static String textOf(Method method) {
        String parameters = Arrays.toString(Arrays.stream(method.getParameterTypes()).map(Class::getName).toArray());
        return method.getReturnType().getName() + " " + method.getName()
            + "(" + parameters.substring(1, parameters.length() - 1) + ")";
    }

    private static void fields(Class<?> face) {
        int own = 0;
        for (Field field : face.getDeclaredFields()) {
            Check.isTrue(field + " is private", Modifier.isPrivate(field.getModifiers()));
            Class<?> type = field.getType();
            if (Modifier.isStatic(field.getModifiers())) {
                Check.isTrue(field + " is a constant",
                    Modifier.isFinal(field.getModifiers()) && (type == int.class || type == long.class));
            } else {
                own++;
                Class<?> kind = type.isArray() ? type.getComponentType() : type;
                Check.isTrue(field + " has an allowed type",
                    kind.isPrimitive() && kind != float.class && kind != double.class);
            }
        }
        Check.isTrue("at most forty fields", own <= 40);
    }
}
