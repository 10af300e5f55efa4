import java.lang.reflect.Constructor;
import java.lang.reflect.Field;
import java.lang.reflect.Method;
import java.lang.reflect.Modifier;
import java.util.HashSet;
import java.util.Set;
import java.util.TreeSet;

/** The public face of the document, and what of LANGUAGE.md can be seen in the compiled class. */
public final class FaceTest {
    private static final Checks CHECKS = new Checks();

    public static void main(String[] args) {
        Class<?> face = FrontierWatch.class;
        CHECKS.sentence("public final class FrontierWatch", () -> kindOfClass(face));
        CHECKS.sentence("public FrontierWatch()", () -> constructors(face));
        CHECKS.sentence("The public face", () -> openMethods(face));
        CHECKS.sentence("No private method bears the name of a public one", () -> privateMethods(face));
        CHECKS.sentence("Types", () -> fields(face));
        CHECKS.end();
    }

    private static void kindOfClass(Class<?> face) {
        CHECKS.holds("the class is public and final",
            Modifier.isPublic(face.getModifiers()) && Modifier.isFinal(face.getModifiers()));
        CHECKS.holds("the class has no package", face.getPackageName().isEmpty());
        CHECKS.holds("no nested class", face.getDeclaredClasses().length == 0);
    }

    private static void constructors(Class<?> face) {
        Constructor<?>[] all = face.getDeclaredConstructors();
        CHECKS.due("number of constructors", all.length, 1);
        CHECKS.holds("the constructor is public and takes nothing",
            Modifier.isPublic(all[0].getModifiers()) && all[0].getParameterCount() == 0);
    }

    private static void openMethods(Class<?> face) {
        Set<String> open = new TreeSet<>();
        for (Method method : face.getDeclaredMethods()) {
            if (!Modifier.isPrivate(method.getModifiers())) {
                open.add(method.getName() + "/" + method.getParameterCount());
                CHECKS.holds(method + " is a public method of an object, of int",
                    Modifier.isPublic(method.getModifiers())
                        && !Modifier.isStatic(method.getModifiers())
                        && method.getReturnType() == int.class);
                for (Class<?> type : method.getParameterTypes()) {
                    CHECKS.holds(method + " takes ints", type == int.class);
                }
            }
        }
        CHECKS.holds("the open methods are the document's: " + open, open.equals(Set.of(
            "link/4", "unlink/1", "put/3", "take/3", "pass/3", "possible/3", "ready/3", "front/1",
            "frontAt/2", "shortest/2")));
    }

    private static void privateMethods(Class<?> face) {
        Set<String> names = new HashSet<>();
        for (Method method : face.getDeclaredMethods()) {
            CHECKS.holds(method + " is the only one of its name", names.add(method.getName()));
            CHECKS.holds(method + " takes seven parameters at most", method.getParameterCount() <= 7);
        }
    }

    private static void fields(Class<?> face) {
        for (Field field : face.getDeclaredFields()) {
            Class<?> type = field.getType();
            boolean isStatic = Modifier.isStatic(field.getModifiers());
            CHECKS.holds(field + " is private", Modifier.isPrivate(field.getModifiers()));
            CHECKS.holds(field + " is of numbers or a row of numbers", type.isPrimitive()
                || type.isArray() && type.getComponentType().isPrimitive());
            CHECKS.holds(field + " is a constant of int or long if it is static", !isStatic
                || Modifier.isFinal(field.getModifiers()) && (type == int.class || type == long.class));
        }
    }
}
