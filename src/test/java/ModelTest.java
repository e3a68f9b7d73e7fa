/** Long runs of mixed calls, each answer held against the model's; the same runs every time. */
public final class ModelTest {
    private static final int RUNS = 1500;
    private static final int CALLS = 512;
    private static final int WRONG_IS_ENOUGH = 20;
    private static final int[] ODD = {-1, 8, 9, 30, 31, 32, Integer.MIN_VALUE, Integer.MAX_VALUE};

    private static final Checks CHECKS = new Checks("ModelTest");

    private long seed;

    private ModelTest(long seed) {
        this.seed = seed;
    }

    public static void main(String[] args) {
        for (int run = 0; run < RUNS && CHECKS.wrongSoFar() < WRONG_IS_ENOUGH; run++) {
            CHECKS.part("run " + run);
            new ModelTest(run).run();
        }
        CHECKS.end();
    }

    /** A fixed sequence of numbers, so that a run that fails can be run again. */
    private int upTo(int bound) {
        seed = seed * 6364136223846793005L + 1442695040888963407L;
        return (int) ((seed >>> 33) % bound);
    }

    private int mostly(int bound) {
        return upTo(12) == 0 ? ODD[upTo(ODD.length)] : upTo(bound);
    }

    private int value() {
        return upTo(4) == 0 ? ODD[upTo(ODD.length)] : upTo(3);
    }

    private void run() {
        PointInTime x = new PointInTime();
        Model model = new Model();
        // How seldom it restores says whether full timelines or many of them come first.
        int restores = 4 + upTo(60);
        int wrongBefore = CHECKS.wrongSoFar();
        for (int call = 0; call < CALLS && CHECKS.wrongSoFar() == wrongBefore; call++) {
            if (upTo(restores) == 0) {
                restore(x, model);
            } else if (upTo(2) == 0) {
                change(x, model);
            } else {
                ask(x, model);
            }
        }
    }

    private int somePoint(Model model, int t) {
        int last = model.lastPoint(t);
        return last < 0 ? mostly(31) : mostly(last + 2);
    }

    private void restore(PointInTime x, Model model) {
        int t = mostly(model.timeline() + 2);
        int n = somePoint(model, t);
        CHECKS.due("restore(" + t + ", " + n + ")", x.restore(t, n), model.restore(t, n));
    }

    private void change(PointInTime x, Model model) {
        int k = mostly(8);
        int l = mostly(8);
        int v = value();
        switch (upTo(6)) {
            case 0 -> CHECKS.due("set(" + k + ", " + v + ")", x.set(k, v), model.set(k, v));
            case 1 -> CHECKS.due("exchange(" + k + ", " + l + ")", x.exchange(k, l), model.exchange(k, l));
            case 2 -> CHECKS.due("add(" + k + ", " + v + ")", x.add(k, v), model.add(k, v));
            case 3 -> CHECKS.due("backup(" + l + ")", x.backup(l), model.backup(l));
            case 4 -> CHECKS.due("flush(" + l + ")", x.flush(l), model.flush(l));
            default -> CHECKS.due("crash()", x.crash(), model.crash());
        }
    }

    private void ask(PointInTime x, Model model) {
        int t = mostly(model.timeline() + 2);
        int n = somePoint(model, t);
        int k = mostly(8);
        String at = "(" + t + ", " + n + ", " + k + ")";
        switch (upTo(8)) {
            case 0 -> CHECKS.due("get(" + k + ")", x.get(k), model.get(k));
            case 1 -> CHECKS.due("timeline()", x.timeline(), model.timeline());
            case 2 -> CHECKS.due("point()", x.point(), model.point());
            case 3 -> CHECKS.due("valueAt" + at, x.valueAt(t, n, k), model.valueAt(t, n, k));
            case 4 -> CHECKS.due("lastPoint(" + t + ")", x.lastPoint(t), model.lastPoint(t));
            case 5 -> CHECKS.due("lastChange" + at, x.lastChange(t, n, k), model.lastChange(t, n, k));
            case 6 -> CHECKS.due("differs(" + t + ", " + n + ")", x.differs(t, n), model.differs(t, n));
            default -> CHECKS.due("digest()", x.digest(), model.digest());
        }
    }
}
