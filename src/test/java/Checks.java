/** Counts and prints the answers that are not the ones due. */
final class Checks {
    private final String test;
    private String part = "";
    private int made = 0;
    private int wrong = 0;

    Checks(String test) {
        this.test = test;
    }

    void part(String name) {
        part = name;
    }

    void due(String call, long got, long want) {
        made++;
        if (got != want) {
            wrong++;
            System.out.println(part + ": " + call + " answered " + got + ", due is " + want);
        }
    }

    void holds(String what, boolean held) {
        made++;
        if (!held) {
            wrong++;
            System.out.println(part + ": not so: " + what);
        }
    }

    int madeSoFar() {
        return made;
    }

    int wrongSoFar() {
        return wrong;
    }

    /** A test that checked nothing fails too: it would pass whatever the program did. */
    void end() {
        System.out.println(test + ": " + made + " checks, " + wrong + " wrong");
        if (wrong != 0 || made == 0) {
            System.exit(1);
        }
    }
}
