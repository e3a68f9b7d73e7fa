import java.io.IOException;
import java.lang.reflect.Constructor;
import java.lang.reflect.Field;
import java.lang.reflect.Method;
import java.lang.reflect.Modifier;
import java.nio.file.Files;
import java.nio.file.Path;
import java.util.Arrays;
import java.util.Set;
import java.util.TreeSet;
import java.util.regex.Matcher;
import java.util.regex.Pattern;

/** The public face as the document has it, and the rules of LANGUAGE.md that reflection can see. */
public final class FaceTest {
    private static final Checks CHECKS = new Checks("FaceTest");

    private static final String[] METHODS = {
        "set/2", "exchange/2", "add/2", "get/1", "timeline/0", "point/0", "restore/2", "valueAt/3",
        "lastPoint/1", "lastChange/3", "differs/2", "crash/0", "backup/1", "flush/1", "digest/0"
    };

    private static final Set<Class<?>> TYPES = Set.of(
        int.class, long.class, short.class, byte.class, char.class, boolean.class,
        int[].class, long[].class, short[].class, byte[].class, char[].class, boolean[].class);

    public static void main(String[] args) throws IOException {
        documentsFace();
        constants();
        theClass();
        publicMembers();
        privateMembers();
        CHECKS.end();
    }

    private static void constants() {
        CHECKS.part("constants");
        CHECKS.due("BAD_ARG", PointInTime.BAD_ARG, -1);
        CHECKS.due("FULL", PointInTime.FULL, -2);
        CHECKS.due("NONE", PointInTime.NONE, -4);
        CHECKS.due("constants for a compiler", asLabels(PointInTime.FULL), 2);
    }

    /** Compiles only if the three are constants already when a program that uses them is compiled. */
    private static int asLabels(int code) {
        return switch (code) {
            case PointInTime.BAD_ARG -> 1;
            case PointInTime.FULL -> 2;
            case PointInTime.NONE -> 3;
            default -> 0;
        };
    }

    /** The face as the document shows it is the one that the checks below hold the class against. */
    private static void documentsFace() throws IOException {
        CHECKS.part("the document's face");
        String face = Files.readString(Path.of("../shared/DOC.md")).split("```")[1];
        Set<String> methods = new TreeSet<>();
        Matcher method = Pattern.compile("public int (\\w+)\\((.*)\\);").matcher(face);
        while (method.find()) {
            methods.add(method.group(1) + "/" + (method.group(2).isEmpty() ? 0 : method.group(2).split(",").length));
        }
        CHECKS.holds("methods " + methods, methods.equals(new TreeSet<>(Arrays.asList(METHODS))));
        Set<String> constants = new TreeSet<>();
        Matcher constant = Pattern.compile("public static final int (\\w+ = -?\\d+);").matcher(face);
        while (constant.find()) {
            constants.add(constant.group(1));
        }
        CHECKS.holds("constants " + constants, constants.equals(Set.of("BAD_ARG = -1", "FULL = -2", "NONE = -4")));
        CHECKS.holds("constructor", face.contains("public PointInTime();"));
    }

    private static void theClass() {
        CHECKS.part("class");
        int modifiers = PointInTime.class.getModifiers();
        CHECKS.holds("public", Modifier.isPublic(modifiers));
        CHECKS.holds("final", Modifier.isFinal(modifiers));
        CHECKS.holds("no superclass of its own", PointInTime.class.getSuperclass() == Object.class);
        CHECKS.due("interfaces", PointInTime.class.getInterfaces().length, 0);
        CHECKS.due("nested classes", PointInTime.class.getDeclaredClasses().length, 0);
        CHECKS.holds("no package", PointInTime.class.getPackageName().isEmpty());
    }

    private static void publicMembers() {
        CHECKS.part("public members");
        Constructor<?>[] constructors = PointInTime.class.getDeclaredConstructors();
        CHECKS.due("constructors", constructors.length, 1);
        CHECKS.holds("public constructor", Modifier.isPublic(constructors[0].getModifiers()));
        CHECKS.due("constructor's parameters", constructors[0].getParameterCount(), 0);

        Set<String> visibleMethods = new TreeSet<>();
        for (Method method : PointInTime.class.getDeclaredMethods()) {
            if (Modifier.isPrivate(method.getModifiers())) {
                continue;
            }
            String name = method.getName() + "/" + method.getParameterCount();
            visibleMethods.add(name);
            CHECKS.holds(name + " is public", Modifier.isPublic(method.getModifiers()));
            CHECKS.holds(name + " is not static", !Modifier.isStatic(method.getModifiers()));
            CHECKS.holds(name + " answers an int", method.getReturnType() == int.class);
            for (Class<?> parameter : method.getParameterTypes()) {
                CHECKS.holds(name + " takes ints", parameter == int.class);
            }
        }
        CHECKS.holds("visible methods " + visibleMethods, visibleMethods.equals(new TreeSet<>(Arrays.asList(METHODS))));

        Set<String> visibleFields = new TreeSet<>();
        for (Field field : PointInTime.class.getDeclaredFields()) {
            if (!Modifier.isPrivate(field.getModifiers())) {
                visibleFields.add(field.getName());
                int wanted = Modifier.PUBLIC | Modifier.STATIC | Modifier.FINAL;
                CHECKS.holds(field.getName() + " is public static final", field.getModifiers() == wanted);
                CHECKS.holds(field.getName() + " is an int", field.getType() == int.class);
            }
        }
        CHECKS.holds("visible fields " + visibleFields, visibleFields.equals(Set.of("BAD_ARG", "FULL", "NONE")));
    }

    private static void privateMembers() {
        CHECKS.part("private members");
        Set<String> faceNames = new TreeSet<>();
        for (String method : METHODS) {
            faceNames.add(method.substring(0, method.indexOf('/')));
        }
        for (Method method : PointInTime.class.getDeclaredMethods()) {
            if (Modifier.isPrivate(method.getModifiers())) {
                CHECKS.holds(method.getName() + " has a name of its own", !faceNames.contains(method.getName()));
                CHECKS.holds(method.getName() + " has 7 parameters or fewer", method.getParameterCount() <= 7);
            }
        }
        for (Field field : PointInTime.class.getDeclaredFields()) {
            CHECKS.holds(field.getName() + " has an allowed type", TYPES.contains(field.getType()));
            if (Modifier.isStatic(field.getModifiers())) {
                CHECKS.holds(field.getName() + " is final", Modifier.isFinal(field.getModifiers()));
                CHECKS.holds(field.getName() + " is an int or a long",
                    field.getType() == int.class || field.getType() == long.class);
            }
        }
    }
}
