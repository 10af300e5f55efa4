import java.lang.reflect.Constructor;
import java.lang.reflect.Field;
import java.lang.reflect.Method;
import java.lang.reflect.Modifier;
import java.util.Set;
import java.util.TreeSet;

/** The public face of the document, as the compiled class shows it. */
public final class FaceTest {
    private static final Checks CHECKS = new Checks();

    public static void main(String[] args) {
        Class<?> face = FrontierWatch.class;
        CHECKS.sentence("public final class FrontierWatch", () -> kindOfClass(face));
        CHECKS.sentence("public FrontierWatch()", () -> constructors(face));
        CHECKS.sentence("The public face", () -> openMethods(face));
        CHECKS.sentence("The public face: no field", () -> openFields(face));
        CHECKS.end();
    }

    private static void kindOfClass(Class<?> face) {
        CHECKS.holds("the class is public and final",
            Modifier.isPublic(face.getModifiers()) && Modifier.isFinal(face.getModifiers()));
        CHECKS.holds("the class has no package", face.getPackageName().isEmpty());
        CHECKS.holds("no nested class", face.getDeclaredClasses().length == 0);
    }

    private static void constructors(Class<?> face) {
        Constructor<?>[] all = face.getDeclaredConstructors();
        CHECKS.due("number of constructors", all.length, 1);
        CHECKS.holds("the constructor is public and takes nothing",
            Modifier.isPublic(all[0].getModifiers()) && all[0].getParameterCount() == 0);
    }

    private static void openMethods(Class<?> face) {
        Set<String> open = new TreeSet<>();
        for (Method method : face.getDeclaredMethods()) {
            if (!Modifier.isPrivate(method.getModifiers())) {
                open.add(method.getName() + "/" + method.getParameterCount());
                CHECKS.holds(method + " is a public method of an object, of int",
                    Modifier.isPublic(method.getModifiers())
                        && !Modifier.isStatic(method.getModifiers())
                        && method.getReturnType() == int.class);
                for (Class<?> type : method.getParameterTypes()) {
                    CHECKS.holds(method + " takes ints", type == int.class);
                }
            }
        }
        CHECKS.holds("the open methods are the document's: " + open, open.equals(Set.of(
            "link/4", "unlink/1", "put/3", "take/3", "pass/3", "possible/3", "ready/3", "front/1",
            "frontAt/2", "shortest/2")));
    }

    private static void openFields(Class<?> face) {
        for (Field field : face.getDeclaredFields()) {
            CHECKS.holds(field + " is private", Modifier.isPrivate(field.getModifiers()));
        }
    }
}
