import java.util.List;

/** Promises 1 to 5 and 16, sentence by sentence: a new object, the changes, get and digest. */
final class ChangesBounds {
    private static final int MIN = Bounds.MIN;
    private static final int MAX = Bounds.MAX;
    private static final int BAD_ARG = Bounds.BAD_ARG;
    private static final int FULL = Bounds.FULL;

    private static final List<Run> WITH_ROOM =
        List.of(Bounds.EMPTY, Bounds.BUSY, Bounds.BRANCHED, Bounds.ALL_TIMELINES);
    private static final List<Run> WITHOUT_ROOM = List.of(Bounds.FULL_TIMELINE, Bounds.ALL_FULL);

    private static final Bounds BOUNDS = DocumentTest.BOUNDS;

    static void all() {
        newObject();
        setSetsTheKey();
        setNotAKey();
        setFull();
        setOrder();
        setNewPoint();
        exchangeExchanges();
        exchangeNotAKey();
        exchangeFull();
        exchangeOrder();
        exchangeSameValues();
        exchangeSameKeys();
        exchangeNewPoint();
        addWraps();
        addNotAKey();
        addFull();
        addOrder();
        addNewPoint();
        getNotAKey();
        digestWraps();
    }

    private static void newObject() {
        BOUNDS.sentence("1", "Timeline 0 is present, at point 0.");
        BOUNDS.due(Bounds.EMPTY, Call.timeline(), 0);
        BOUNDS.due(Bounds.EMPTY, Call.point(), 0);
        BOUNDS.due(Bounds.EMPTY, Call.lastPoint(0), 0);
        for (int t = 1; t <= 6; t++) {
            BOUNDS.due(Bounds.EMPTY, Call.lastPoint(t), Bounds.NONE);
        }
        PointInTime used = Bounds.ALL_FULL.made();
        PointInTime other = new PointInTime();
        BOUNDS.due("made after another: timeline()", other.timeline(), 0);
        BOUNDS.due("made after another: point()", other.point(), 0);
        BOUNDS.due("made after another: digest()", other.digest(), 0);
        BOUNDS.due("the other one: timeline()", used.timeline(), 5);
        BOUNDS.due("the other one: point()", used.point(), 30);
        twoInTurn();
    }

    /** What is done to one object between the calls on another must not be seen in that one. */
    private static void twoInTurn() {
        PointInTime one = new PointInTime();
        PointInTime other = new PointInTime();
        for (int p = 1; p <= 30; p++) {
            BOUNDS.due("one of two: set", one.set(p % 8, p), p);
            BOUNDS.due("the other of two: set", other.set(p % 8, -p), p);
        }
        for (int p = 1; p <= 30; p++) {
            BOUNDS.due("one of two: valueAt", one.valueAt(0, p, p % 8), p);
            BOUNDS.due("the other of two: valueAt", other.valueAt(0, p, p % 8), -p);
        }
        BOUNDS.due("one of two: restore(0, 4)", one.restore(0, 4), 1);
        BOUNDS.due("the other of two: timeline()", other.timeline(), 0);
        BOUNDS.due("the other of two: point()", other.point(), 30);
        BOUNDS.due("the other of two: lastPoint(1)", other.lastPoint(1), Bounds.NONE);
        BOUNDS.due("the other of two: restore(0, 6)", other.restore(0, 6), 1);
        BOUNDS.due("one of two: point()", one.point(), 4);
        BOUNDS.due("one of two: digest()", one.digest(), 2 * 1 + 3 * 2 + 4 * 3 + 5 * 4);
    }

    private static int[] busyNow() {
        return Bounds.BUSY_STATES[9].clone();
    }

    private static void setSetsTheKey() {
        BOUNDS.sentence("2", "A change that sets key k to v.");
        for (int k = 0; k <= 7; k++) {
            for (int v : Bounds.VALUES) {
                PointInTime x = Bounds.BUSY.made();
                int[] want = busyNow();
                want[k] = v;
                BOUNDS.due("busy: set(" + k + ", " + v + ")", x.set(k, v), 10);
                BOUNDS.valuesNow("busy: set(" + k + ", " + v + ")", x, want);
                BOUNDS.valuesAt("busy: set(" + k + ", " + v + ")", x, 0, 10, want);
                BOUNDS.valuesAt("busy: set(" + k + ", " + v + ")", x, 0, 9, busyNow());
            }
        }
    }

    private static void setNotAKey() {
        BOUNDS.sentence("2", "k not 0 to 7 answers BAD_ARG");
        for (Run state : WITH_ROOM) {
            int next = state.model().point() + 1;
            for (int v : Bounds.VALUES) {
                BOUNDS.due(state, Call.set(0, v), next);
                BOUNDS.due(state, Call.set(7, v), next);
            }
            for (int k : Bounds.NOT_KEYS) {
                BOUNDS.refused(state, Call.set(k, 1), BAD_ARG);
                BOUNDS.refused(state, Call.set(k, MIN), BAD_ARG);
                BOUNDS.refused(state, Call.set(k, MAX), BAD_ARG);
            }
        }
    }

    private static void setFull() {
        BOUNDS.sentence("2", "the timeline has point 30 answers FULL");
        Run at29 = Bounds.BRANCHED.upToPoint(29);
        for (int k = 0; k <= 7; k++) {
            BOUNDS.due(at29, Call.set(k, 1), 30);
            for (Run state : WITHOUT_ROOM) {
                BOUNDS.refused(state, Call.set(k, 1), FULL);
                BOUNDS.refused(state, Call.set(k, state.model().get(k)), FULL);
                BOUNDS.refused(state, Call.set(k, MIN), FULL);
                BOUNDS.refused(state, Call.set(k, MAX), FULL);
            }
        }
    }

    private static void setOrder() {
        BOUNDS.sentence("2", "Tested in this order");
        for (Run state : WITHOUT_ROOM) {
            for (int k : Bounds.NOT_KEYS) {
                BOUNDS.refused(state, Call.set(k, 1), BAD_ARG);
            }
        }
    }

    private static void setNewPoint() {
        BOUNDS.sentence("2", "Otherwise the new point.");
        PointInTime x = new PointInTime();
        for (int p = 1; p <= 30; p++) {
            BOUNDS.due("set, the change number " + p, x.set(p % 8, 0), p);
            BOUNDS.due("point()", x.point(), p);
        }
        BOUNDS.due("one more", x.set(0, 0), FULL);
        BOUNDS.due(Bounds.BRANCHED, Call.set(1, 2), 12);
    }

    private static void exchangeExchanges() {
        BOUNDS.sentence("3", "A change that exchanges the values of the keys k and l");
        for (int k = 0; k <= 7; k++) {
            for (int l = 0; l <= 7; l++) {
                PointInTime x = Bounds.BUSY.made();
                int[] want = busyNow();
                want[k] = busyNow()[l];
                want[l] = busyNow()[k];
                BOUNDS.due("busy: exchange(" + k + ", " + l + ")", x.exchange(k, l), 10);
                BOUNDS.valuesNow("busy: exchange(" + k + ", " + l + ")", x, want);
                BOUNDS.valuesAt("busy: exchange(" + k + ", " + l + ")", x, 0, 10, want);
                BOUNDS.valuesAt("busy: exchange(" + k + ", " + l + ")", x, 0, 9, busyNow());
            }
        }
    }

    private static void exchangeNotAKey() {
        BOUNDS.sentence("3", "k or l not 0 to 7 answers BAD_ARG");
        for (Run state : WITH_ROOM) {
            int next = state.model().point() + 1;
            BOUNDS.due(state, Call.exchange(0, 7), next);
            BOUNDS.due(state, Call.exchange(7, 0), next);
            badPairsRefused(state);
        }
    }

    private static void badPairsRefused(Run state) {
        for (int bad : Bounds.NOT_KEYS) {
            BOUNDS.refused(state, Call.exchange(bad, 0), BAD_ARG);
            BOUNDS.refused(state, Call.exchange(bad, 7), BAD_ARG);
            BOUNDS.refused(state, Call.exchange(0, bad), BAD_ARG);
            BOUNDS.refused(state, Call.exchange(7, bad), BAD_ARG);
            BOUNDS.refused(state, Call.exchange(bad, bad), BAD_ARG);
            BOUNDS.refused(state, Call.exchange(-1, bad), BAD_ARG);
            BOUNDS.refused(state, Call.exchange(bad, 8), BAD_ARG);
        }
    }

    private static void exchangeFull() {
        BOUNDS.sentence("3", "FULL as for set.");
        Run at29 = Bounds.BRANCHED.upToPoint(29);
        for (int k = 0; k <= 7; k++) {
            for (int l = 0; l <= 7; l++) {
                BOUNDS.due(at29, Call.exchange(k, l), 30);
                BOUNDS.refused(Bounds.FULL_TIMELINE, Call.exchange(k, l), FULL);
            }
        }
        BOUNDS.refused(Bounds.ALL_FULL, Call.exchange(0, 7), FULL);
        BOUNDS.refused(Bounds.ALL_FULL, Call.exchange(7, 7), FULL);
    }

    private static void exchangeOrder() {
        BOUNDS.sentence("3", "Tested in this order");
        for (Run state : WITHOUT_ROOM) {
            badPairsRefused(state);
        }
    }

    private static void exchangeSameValues() {
        BOUNDS.sentence("3", "(the values may be the same");
        for (int v : Bounds.VALUES) {
            Run same = Bounds.EMPTY.then("0 and 7 are " + v, Call.set(0, v), Call.set(7, v));
            BOUNDS.due(same, Call.exchange(0, 7), 3);
            Run after = same.then("0 and 7 are " + v + ", exchanged", Call.exchange(0, 7));
            BOUNDS.due(after, Call.point(), 3);
            BOUNDS.due(after, Call.get(0), v);
            BOUNDS.due(after, Call.get(7), v);
            BOUNDS.due(after, Call.differs(0, 2), 0);
        }
        Run apart = Bounds.EMPTY.then("least and greatest", Call.set(0, MIN), Call.set(7, MAX), Call.exchange(0, 7));
        BOUNDS.due(apart, Call.get(0), MAX);
        BOUNDS.due(apart, Call.get(7), MIN);
    }

    private static void exchangeSameKeys() {
        BOUNDS.sentence("3", ", and so may the keys).");
        for (int k = 0; k <= 7; k++) {
            BOUNDS.due(Bounds.EMPTY, Call.exchange(k, k), 1);
            BOUNDS.due(Bounds.BUSY, Call.exchange(k, k), 10);
            Run after = Bounds.BUSY.then("busy, exchange(" + k + ", " + k + ")", Call.exchange(k, k));
            BOUNDS.due(after, Call.point(), 10);
            BOUNDS.due(after, Call.get(k), Bounds.BUSY.model().get(k));
            BOUNDS.due(after, Call.differs(0, 9), 0);
        }
    }

    private static void exchangeNewPoint() {
        BOUNDS.sentence("3", "Otherwise the new point.");
        PointInTime x = new PointInTime();
        for (int p = 1; p <= 30; p++) {
            BOUNDS.due("exchange, the change number " + p, x.exchange(p % 8, p % 5), p);
            BOUNDS.due("point()", x.point(), p);
        }
        BOUNDS.due("one more", x.exchange(0, 1), FULL);
        BOUNDS.due(Bounds.BRANCHED, Call.exchange(1, 2), 12);
    }

    private static void addWraps() {
        BOUNDS.sentence("4", "A change that adds d to the value of key k (wrapping).");
        int[][] sums = {{MAX, 1, MIN}, {MIN, -1, MAX}, {MAX, MAX, -2}, {MIN, MIN, 0}, {MIN, MAX, -1}, {MAX, MIN, -1},
            {MAX, 0, MAX}, {MIN, 0, MIN}, {0, MIN, MIN}, {0, MAX, MAX}, {MAX - 1, 1, MAX}, {MIN + 1, -1, MIN},
            {-1, MIN, MAX}, {1, MAX, MIN}, {0, 0, 0}, {5, -5, 0}};
        for (int[] sum : sums) {
            for (int k = 0; k <= 7; k++) {
                Run begun = Bounds.EMPTY.then("key " + k + " is " + sum[0], Call.set(k, sum[0]));
                BOUNDS.due(begun, Call.add(k, sum[1]), 2);
                Run after = begun.then(begun + ", add " + sum[1], Call.add(k, sum[1]));
                BOUNDS.due(after, Call.get(k), sum[2]);
                BOUNDS.due(after, Call.valueAt(0, 1, k), sum[0]);
            }
        }
    }

    private static void addNotAKey() {
        BOUNDS.sentence("4", "Refused as set.");
        for (Run state : WITH_ROOM) {
            int next = state.model().point() + 1;
            BOUNDS.due(state, Call.add(0, 1), next);
            BOUNDS.due(state, Call.add(7, 1), next);
            for (int k : Bounds.NOT_KEYS) {
                BOUNDS.refused(state, Call.add(k, 1), BAD_ARG);
                BOUNDS.refused(state, Call.add(k, 0), BAD_ARG);
                BOUNDS.refused(state, Call.add(k, MIN), BAD_ARG);
                BOUNDS.refused(state, Call.add(k, MAX), BAD_ARG);
            }
        }
    }

    private static void addFull() {
        BOUNDS.sentence("4", "Refused as set.");
        Run at29 = Bounds.BRANCHED.upToPoint(29);
        for (int k = 0; k <= 7; k++) {
            BOUNDS.due(at29, Call.add(k, 1), 30);
            for (Run state : WITHOUT_ROOM) {
                BOUNDS.refused(state, Call.add(k, 1), FULL);
                BOUNDS.refused(state, Call.add(k, 0), FULL);
                BOUNDS.refused(state, Call.add(k, MIN), FULL);
                BOUNDS.refused(state, Call.add(k, MAX), FULL);
            }
        }
    }

    private static void addOrder() {
        BOUNDS.sentence("4", "Refused as set.");
        for (Run state : WITHOUT_ROOM) {
            for (int k : Bounds.NOT_KEYS) {
                BOUNDS.refused(state, Call.add(k, 1), BAD_ARG);
            }
        }
    }

    private static void addNewPoint() {
        BOUNDS.sentence("4", "Otherwise the new point.");
        PointInTime x = new PointInTime();
        for (int p = 1; p <= 30; p++) {
            BOUNDS.due("add, the change number " + p, x.add(p % 8, p % 3), p);
            BOUNDS.due("point()", x.point(), p);
        }
        BOUNDS.due("one more", x.add(0, 1), FULL);
        BOUNDS.due(Bounds.BRANCHED, Call.add(1, 2), 12);
    }

    private static void getNotAKey() {
        BOUNDS.sentence("5", "The value of key k now; 0 if k is not 0 to 7.");
        for (Run state : Bounds.STATES) {
            for (int k : Bounds.NOT_KEYS) {
                BOUNDS.unseen(state, Call.get(k), 0);
            }
        }
        for (int k = 0; k <= 7; k++) {
            BOUNDS.unseen(Bounds.BUSY, Call.get(k), busyNow()[k]);
        }
        Run back = Bounds.BUSY.then("busy, restored at 1", Call.restore(0, 1));
        BOUNDS.due(back, Call.get(0), MIN);
        BOUNDS.due(back, Call.get(7), 0);
    }

    private static void digestWraps() {
        BOUNDS.sentence("16", "The sum, wrapping, over all keys k of (k + 1) times the value now.");
        BOUNDS.unseen(Bounds.EMPTY, Call.digest(), 0);
        int[][] all = {{0, 0}, {1, 36}, {-1, -36}, {MAX, -36}, {MIN, 0}, {MAX - 1, -72}, {MIN + 1, 36}};
        for (int[] one : all) {
            Run run = Bounds.EMPTY;
            for (int k = 0; k <= 7; k++) {
                run = run.then("all keys are " + one[0], Call.set(k, one[0]));
            }
            BOUNDS.due(run, Call.digest(), one[1]);
        }
        int[] greatestAlone = {MAX, -2, MAX - 2, -4, MAX - 4, -6, MAX - 6, -8};
        int[] leastAlone = {MIN, 0, MIN, 0, MIN, 0, MIN, 0};
        for (int k = 0; k <= 7; k++) {
            BOUNDS.due(Bounds.EMPTY.then("key " + k + " is MAX", Call.set(k, MAX)), Call.digest(), greatestAlone[k]);
            BOUNDS.due(Bounds.EMPTY.then("key " + k + " is MIN", Call.set(k, MIN)), Call.digest(), leastAlone[k]);
            BOUNDS.due(Bounds.EMPTY.then("key " + k + " is 1", Call.set(k, 1)), Call.digest(), k + 1);
        }
        Run overTheTop = Bounds.EMPTY.then("one over the greatest", Call.set(0, MAX - 1), Call.set(1, 1));
        BOUNDS.due(overTheTop, Call.digest(), MIN);
        Run underTheBottom = Bounds.EMPTY.then("one under the least", Call.set(0, MIN + 1), Call.set(1, -1));
        BOUNDS.due(underTheBottom, Call.digest(), MAX);
        Run now = overTheTop.then("restored at 1", Call.restore(0, 1));
        BOUNDS.due(now, Call.digest(), MAX - 1);
    }
}
