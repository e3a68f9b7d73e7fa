/** Long runs of mixed calls, each answer held against the model's; the same runs every time. */
public final class ModelTest {
    private static final int RUNS = 1500;
    private static final int WRONG_IS_ENOUGH = 20;
    private static final int[] ODD = {-1, 8, 9, 30, 31, 32, Integer.MIN_VALUE, Integer.MAX_VALUE};

    private static final Checks CHECKS = new Checks("ModelTest");

    private long seed;

    private ModelTest(long seed) {
        this.seed = seed;
    }

    public static void main(String[] args) {
        for (int run = 0; run < RUNS && CHECKS.wrongSoFar() < WRONG_IS_ENOUGH; run++) {
            CHECKS.part("run " + run);
            new ModelTest(run).run();
        }
        CHECKS.end();
    }

    /** A fixed sequence of numbers, so that a run that fails can be run again. */
    private int upTo(int bound) {
        seed = seed * 6364136223846793005L + 1442695040888963407L;
        return (int) ((seed >>> 33) % bound);
    }

    private int mostly(int bound) {
        return upTo(12) == 0 ? ODD[upTo(ODD.length)] : upTo(bound);
    }

    private int value() {
        return upTo(4) == 0 ? ODD[upTo(ODD.length)] : upTo(3);
    }

    private void run() {
        PointInTime x = new PointInTime();
        Model model = new Model();
        // How seldom it restores says whether full timelines or many of them come first.
        int restores = 4 + upTo(60);
        int wrongBefore = CHECKS.wrongSoFar();
        for (int made = 0; made < Run.MOST_CALLS && CHECKS.wrongSoFar() == wrongBefore; made++) {
            Call call = someCall(model, restores);
            CHECKS.due(call.text(), call.on(x), call.on(model));
        }
    }

    private Call someCall(Model model, int restores) {
        if (upTo(restores) == 0) {
            int t = mostly(model.timeline() + 2);
            return Call.restore(t, somePoint(model, t));
        }
        return upTo(2) == 0 ? someChange() : someQuestion(model);
    }

    private int somePoint(Model model, int t) {
        int last = model.lastPoint(t);
        return last < 0 ? mostly(31) : mostly(last + 2);
    }

    private Call someChange() {
        int k = mostly(8);
        int l = mostly(8);
        int v = value();
        return switch (upTo(6)) {
            case 0 -> Call.set(k, v);
            case 1 -> Call.exchange(k, l);
            case 2 -> Call.add(k, v);
            case 3 -> Call.backup(l);
            case 4 -> Call.flush(l);
            default -> Call.crash();
        };
    }

    private Call someQuestion(Model model) {
        int t = mostly(model.timeline() + 2);
        int n = somePoint(model, t);
        int k = mostly(8);
        return switch (upTo(8)) {
            case 0 -> Call.get(k);
            case 1 -> Call.timeline();
            case 2 -> Call.point();
            case 3 -> Call.valueAt(t, n, k);
            case 4 -> Call.lastPoint(t);
            case 5 -> Call.lastChange(t, n, k);
            case 6 -> Call.differs(t, n);
            default -> Call.digest();
        };
    }
}
