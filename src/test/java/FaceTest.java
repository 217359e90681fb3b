import java.lang.reflect.Constructor;
import java.lang.reflect.Field;
import java.lang.reflect.Method;
import java.lang.reflect.Modifier;
import java.util.TreeSet;

/** The public face of the document, and nothing beside it that is not private. */
public final class FaceTest {
    private static final String[] METHODS = {
        "int activate(int, long)", "int code(int, int)", "int event(int, int)", "int events(int)",
        "int holder(int)", "int interrupt(int, long, long)", "int manner(int, boolean)", "int order(int, int)",
        "int part(int, int, long)", "int run(long)", "int running(int, long)", "int spin(int, int)",
        "int state(int)", "int task(int, int, int, boolean)", "long now()", "long used(int)",
    };

    public static void main(String[] args) {
        Class<?> face = TaskCores.class;
        Check.due("modifiers", Modifier.toString(face.getModifiers()), "public final");
        Check.due("methods", String.join("; ", methods(face)), String.join("; ", METHODS));
        Constructor<?>[] constructors = face.getDeclaredConstructors();
        Check.due("how many constructors", constructors.length, 1);
        Check.due("constructor", constructors[0].toString(), "public TaskCores(int)");
        for (Field field : face.getDeclaredFields()) {
            Check.due(field.getName() + " is private", Modifier.isPrivate(field.getModifiers()) ? 1 : 0, 1);
        }
        for (Class<?> inside : face.getDeclaredClasses()) {
            Check.due(inside.getName() + " is static", Modifier.isStatic(inside.getModifiers()) ? 1 : 0, 1);
        }
        Check.end();
    }

    private static TreeSet<String> methods(Class<?> face) {
        TreeSet<String> found = new TreeSet<>();
        for (Method method : face.getDeclaredMethods()) {
            if (Modifier.isPrivate(method.getModifiers())) {
                continue;
            }
            StringBuilder parameters = new StringBuilder();
            for (Class<?> type : method.getParameterTypes()) {
                parameters.append(parameters.length() == 0 ? "" : ", ").append(type.getName());
            }
            found.add(method.getReturnType().getName() + " " + method.getName() + "(" + parameters + ")");
        }
        return found;
    }
}
