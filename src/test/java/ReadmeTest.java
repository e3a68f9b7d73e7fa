import java.io.IOException;
import java.io.UncheckedIOException;
import java.lang.reflect.Field;
import java.lang.reflect.Method;
import java.lang.reflect.Modifier;
import java.nio.file.Files;
import java.nio.file.Path;
import java.util.Arrays;
import java.util.List;
import java.util.Map;
import java.util.Set;
import java.util.TreeSet;
import java.util.regex.Matcher;
import java.util.regex.Pattern;
import java.util.stream.Collectors;
import java.util.stream.IntStream;
import java.util.stream.Stream;

/** What README.md says is so: its calls answer what stands beside them, and it leaves no call out. */
public final class ReadmeTest {
    private static final Pattern JAVA_BLOCK = Pattern.compile("(?ms)^```java\n(.*?)^```$");
    private static final String MADE = "PointInTime store = new PointInTime();";
    private static final Pattern SHOWN =
        Pattern.compile("store\\.(\\w+)\\(([-\\d, ]*)\\); +// (-?\\d+|PointInTime\\.\\w+)(: .+)?");
    private static final Pattern ROW = Pattern.compile("(?m)^\\| `(\\w+)\\(([\\w, ]*)\\)` \\|.*\\|([^|]*)\\|$");
    private static final int[] EDGES = {-1, 0, 6, 8, 9, 31};
    private static final Pattern CODE = Pattern.compile("(?m)^- `([A-Z_]+)` \\((-?\\d+)\\)");
    private static final Pattern NAMED = Pattern.compile("`([^`\\s]+)`");
    private static final Pattern RUN_ALONE = Pattern.compile("(?m)^    java -cp (\\S+) (\\w+)$");

    private static final Checks CHECKS = new Checks("ReadmeTest");

    private static final Map<Integer, String> CODES = Map.of(-1, "BAD_ARG", -2, "FULL", -4, "NONE");

    private final Set<String> shownCalls = new TreeSet<>();
    private final Set<String> shownCodes = new TreeSet<>();
    private PointInTime store;

    public static void main(String[] args) throws ReflectiveOperationException, IOException {
        String readme = Files.readString(Path.of("README.md"));
        new ReadmeTest().shownCallsAnswer(readme);
        everyCallHasItsRow(readme);
        rowsTellTheCodes(readme);
        codes(readme);
        howToRunTheTests(readme);
        namedFilesAreThere(readme);
        everyTestIsNamed(readme);
        CHECKS.end();
    }

    private static Set<String> face() {
        return Stream.of(PointInTime.class.getDeclaredMethods())
            .filter(method -> Modifier.isPublic(method.getModifiers()))
            .map(method -> method.getName() + "/" + method.getParameterCount())
            .collect(Collectors.toCollection(TreeSet::new));
    }

    private static String[] split(String arguments) {
        return arguments.isEmpty() ? new String[0] : arguments.split(", ");
    }

    private void shownCallsAnswer(String readme) throws ReflectiveOperationException {
        CHECKS.part("calls shown");
        Matcher blocks = JAVA_BLOCK.matcher(readme);
        while (blocks.find()) {
            for (String line : blocks.group(1).split("\n")) {
                shownLine(line);
            }
        }
        CHECKS.holds("every call is shown: " + shownCalls, shownCalls.equals(face()));
        CHECKS.holds("every code is shown: " + shownCodes, shownCodes.equals(new TreeSet<>(CODES.values())));
    }

    private void shownLine(String line) throws ReflectiveOperationException {
        Matcher shown = SHOWN.matcher(line);
        if (line.equals(MADE)) {
            store = new PointInTime();
        } else if (store != null && shown.matches()) {
            String[] arguments = split(shown.group(2));
            shownCalls.add(shown.group(1) + "/" + arguments.length);
            int[] values = Stream.of(arguments).mapToInt(Integer::parseInt).toArray();
            CHECKS.due(line, answer(store, shown.group(1), values), want(shown.group(3)));
        } else {
            CHECKS.holds("a call with its answer: " + line, false);
        }
    }

    private static int answer(PointInTime x, String name, int[] arguments) throws ReflectiveOperationException {
        Class<?>[] types = new Class<?>[arguments.length];
        Arrays.fill(types, int.class);
        Method method = PointInTime.class.getMethod(name, types);
        return (int) method.invoke(x, IntStream.of(arguments).boxed().toArray());
    }

    private int want(String answer) throws ReflectiveOperationException {
        if (!answer.startsWith("PointInTime.")) {
            return Integer.parseInt(answer);
        }
        String code = answer.substring("PointInTime.".length());
        shownCodes.add(code);
        return PointInTime.class.getField(code).getInt(null);
    }

    private static void everyCallHasItsRow(String readme) {
        CHECKS.part("all calls");
        Set<String> rows = new TreeSet<>();
        Matcher row = ROW.matcher(readme);
        while (row.find()) {
            rows.add(row.group(1) + "/" + split(row.group(2)).length);
        }
        CHECKS.holds("the calls of the class: " + rows, rows.equals(face()));
    }

    /** A call can be refused with the codes of its row and no others, the first of them being tested first. */
    private static void rowsTellTheCodes(String readme) throws ReflectiveOperationException {
        CHECKS.part("codes of each call");
        Matcher row = ROW.matcher(readme);
        while (row.find()) {
            String name = row.group(1);
            int arity = split(row.group(2)).length;
            List<String> told = List.of(split(row.group(3).replace("`", "").strip()));
            Set<String> answered = codesAnswered(name, arity);
            CHECKS.holds(name + " is refused with " + answered, answered.equals(new TreeSet<>(told)));
            if (!told.isEmpty()) {
                int[] allBad = new int[arity];
                Arrays.fill(allBad, -1);
                String first = CODES.get(answer(Bounds.ALL_FULL.made(), name, allBad));
                CHECKS.holds(name + " tests first for " + first, told.get(0).equals(first));
            }
        }
    }

    /** Neither of the two states has a value or a digest that is the same number as a code. */
    private static Set<String> codesAnswered(String name, int arity) throws ReflectiveOperationException {
        Set<String> codes = new TreeSet<>();
        int ways = (int) Math.pow(EDGES.length, arity);
        for (Run state : List.of(Bounds.EMPTY, Bounds.ALL_FULL)) {
            for (int way = 0; way < ways; way++) {
                int[] arguments = new int[arity];
                for (int i = 0, rest = way; i < arity; i++, rest /= EDGES.length) {
                    arguments[i] = EDGES[rest % EDGES.length];
                }
                int answer = answer(state.made(), name, arguments);
                if (CODES.containsKey(answer)) {
                    codes.add(CODES.get(answer));
                }
            }
        }
        return codes;
    }

    private static void codes(String readme) throws ReflectiveOperationException {
        CHECKS.part("codes");
        Set<String> told = new TreeSet<>();
        Matcher code = CODE.matcher(readme);
        while (code.find()) {
            Field field = PointInTime.class.getField(code.group(1));
            CHECKS.due(code.group(1), field.getInt(null), Integer.parseInt(code.group(2)));
            told.add(code.group(1));
        }
        CHECKS.holds("every code is told: " + told, told.equals(new TreeSet<>(CODES.values())));
    }

    private static void howToRunTheTests(String readme) {
        CHECKS.part("how to run the tests");
        CHECKS.holds("it names .ci/run", readme.contains("\n    .ci/run\n"));
        CHECKS.holds(".ci/run can be run", Files.isExecutable(Path.of(".ci/run")));
        Matcher alone = RUN_ALONE.matcher(readme);
        CHECKS.holds("one that it runs alone is built there", alone.find()
            && Files.exists(Path.of(alone.group(1), alone.group(2) + ".class")));
    }

    private static void namedFilesAreThere(String readme) {
        CHECKS.part("files named");
        Matcher named = NAMED.matcher(readme);
        while (named.find()) {
            String name = named.group(1);
            if (name.contains("/") && !name.contains("*")) {
                CHECKS.holds(name + " is there", Files.exists(Path.of(name)));
            }
            if (name.matches("[A-Z][a-z]\\w*")) {
                CHECKS.holds(name + " is one of the tests' classes", testClasses().contains(name));
            }
        }
    }

    private static void everyTestIsNamed(String readme) {
        CHECKS.part("tests");
        for (String name : testClasses()) {
            CHECKS.holds(name + " is told of", readme.contains("`" + name + "`"));
        }
    }

    private static List<String> testClasses() {
        try (Stream<Path> files = Files.list(Path.of("src/test/java"))) {
            return files.map(file -> file.getFileName().toString().replaceFirst("\\.java$", "")).sorted().toList();
        } catch (IOException failed) {
            throw new UncheckedIOException(failed);
        }
    }
}
