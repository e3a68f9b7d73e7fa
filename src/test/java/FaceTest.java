import java.lang.reflect.Constructor;
import java.lang.reflect.Field;
import java.lang.reflect.Method;
import java.lang.reflect.Modifier;
import java.util.Arrays;
import java.util.Set;
import java.util.TreeSet;

/** The public face as the document has it, and the rules of LANGUAGE.md that reflection can see. */
public final class FaceTest {
    private static final Checks CHECKS = new Checks("FaceTest");

    private static final String[] METHODS = {
        "set/2", "exchange/2", "add/2", "get/1", "timeline/0", "point/0", "restore/2", "valueAt/3",
        "lastPoint/1", "lastChange/3", "differs/2", "crash/0", "backup/1", "flush/1", "digest/0"
    };

    private static final Set<Class<?>> TYPES = Set.of(
        int.class, long.class, short.class, byte.class, char.class, boolean.class,
        int[].class, long[].class, short[].class, byte[].class, char[].class, boolean[].class);

    public static void main(String[] args) {
        constants();
        theClass();
        publicMembers();
        privateMembers();
        CHECKS.end();
    }

    private static void constants() {
        CHECKS.part("constants");
        CHECKS.due("BAD_ARG", PointInTime.BAD_ARG, -1);
        CHECKS.due("FULL", PointInTime.FULL, -2);
        CHECKS.due("NONE", PointInTime.NONE, -4);
    }

    private static void theClass() {
        CHECKS.part("class");
        int modifiers = PointInTime.class.getModifiers();
        CHECKS.holds("public", Modifier.isPublic(modifiers));
        CHECKS.holds("final", Modifier.isFinal(modifiers));
        CHECKS.holds("no superclass of its own", PointInTime.class.getSuperclass() == Object.class);
        CHECKS.due("interfaces", PointInTime.class.getInterfaces().length, 0);
        CHECKS.due("nested classes", PointInTime.class.getDeclaredClasses().length, 0);
        CHECKS.holds("no package", PointInTime.class.getPackageName().isEmpty());
    }

    private static void publicMembers() {
        CHECKS.part("public members");
        Constructor<?>[] constructors = PointInTime.class.getDeclaredConstructors();
        CHECKS.due("constructors", constructors.length, 1);
        CHECKS.holds("public constructor", Modifier.isPublic(constructors[0].getModifiers()));
        CHECKS.due("constructor's parameters", constructors[0].getParameterCount(), 0);

        Set<String> visibleMethods = new TreeSet<>();
        for (Method method : PointInTime.class.getDeclaredMethods()) {
            if (Modifier.isPrivate(method.getModifiers())) {
                continue;
            }
            String name = method.getName() + "/" + method.getParameterCount();
            visibleMethods.add(name);
            CHECKS.holds(name + " is public", Modifier.isPublic(method.getModifiers()));
            CHECKS.holds(name + " is not static", !Modifier.isStatic(method.getModifiers()));
            CHECKS.holds(name + " answers an int", method.getReturnType() == int.class);
            for (Class<?> parameter : method.getParameterTypes()) {
                CHECKS.holds(name + " takes ints", parameter == int.class);
            }
        }
        CHECKS.holds("visible methods " + visibleMethods, visibleMethods.equals(new TreeSet<>(Arrays.asList(METHODS))));

        Set<String> visibleFields = new TreeSet<>();
        for (Field field : PointInTime.class.getDeclaredFields()) {
            if (!Modifier.isPrivate(field.getModifiers())) {
                visibleFields.add(field.getName());
                int wanted = Modifier.PUBLIC | Modifier.STATIC | Modifier.FINAL;
                CHECKS.holds(field.getName() + " is public static final", field.getModifiers() == wanted);
                CHECKS.holds(field.getName() + " is an int", field.getType() == int.class);
            }
        }
        CHECKS.holds("visible fields " + visibleFields, visibleFields.equals(Set.of("BAD_ARG", "FULL", "NONE")));
    }

    private static void privateMembers() {
        CHECKS.part("private members");
        Set<String> faceNames = new TreeSet<>();
        for (String method : METHODS) {
            faceNames.add(method.substring(0, method.indexOf('/')));
        }
        for (Method method : PointInTime.class.getDeclaredMethods()) {
            if (Modifier.isPrivate(method.getModifiers())) {
                CHECKS.holds(method.getName() + " has a name of its own", !faceNames.contains(method.getName()));
                CHECKS.holds(method.getName() + " has 7 parameters or fewer", method.getParameterCount() <= 7);
            }
        }
        for (Field field : PointInTime.class.getDeclaredFields()) {
            CHECKS.holds(field.getName() + " has an allowed type", TYPES.contains(field.getType()));
            if (Modifier.isStatic(field.getModifiers())) {
                CHECKS.holds(field.getName() + " is final", Modifier.isFinal(field.getModifiers()));
                CHECKS.holds(field.getName() + " is an int or a long",
                    field.getType() == int.class || field.getType() == long.class);
            }
        }
    }
}
