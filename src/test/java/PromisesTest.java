/** Each promise of the document by itself: ordinary inputs, its edges, and wrong inputs. */
public final class PromisesTest {
    private static final int MIN = Integer.MIN_VALUE;
    private static final int MAX = Integer.MAX_VALUE;
    private static final int BAD_ARG = -1;
    private static final int FULL = -2;
    private static final int NONE = -4;
    private static final int[] NOT_KEYS = {-1, 8, 9, MIN, MAX};
    private static final int[] NOT_COUNTS = {-1, 9, 10, MIN, MAX};

    private static final Checks CHECKS = new Checks("PromisesTest");

    public static void main(String[] args) {
        newObject();
        set();
        exchange();
        add();
        get();
        timelineAndPoint();
        restore();
        restoredTimelinesAreApart();
        restoreRefused();
        valueAt();
        lastPoint();
        lastChange();
        lastChangeOnBranches();
        differs();
        crash();
        backup();
        flush();
        backupWhileItGoesOn();
        digest();
        refusedCallsChangeNothing();
        CHECKS.end();
    }

    private static void due(String call, int got, int want) {
        CHECKS.due(call, got, want);
    }

    /** Changes up to point 30 of the present timeline, key 0 having the point's number as its value. */
    private static void fill(PointInTime x) {
        for (int p = x.point() + 1; p <= 30; p++) {
            due("fill: set(0, " + p + ")", x.set(0, p), p);
        }
    }

    private static void values(String when, PointInTime x, int... want) {
        for (int k = 0; k < 8; k++) {
            due(when + ": get(" + k + ")", x.get(k), want[k]);
        }
    }

    private static void newObject() {
        CHECKS.part("promise 1, a new object");
        PointInTime x = new PointInTime();
        due("timeline()", x.timeline(), 0);
        due("point()", x.point(), 0);
        values("new", x, 0, 0, 0, 0, 0, 0, 0, 0);
        due("lastPoint(0)", x.lastPoint(0), 0);
        due("lastPoint(1)", x.lastPoint(1), NONE);
        x.set(0, 5);
        PointInTime y = new PointInTime();
        due("another object's point()", y.point(), 0);
        due("another object's get(0)", y.get(0), 0);
    }

    private static void set() {
        CHECKS.part("promise 2, set");
        PointInTime x = new PointInTime();
        for (int k = 0; k < 8; k++) {
            due("set(" + k + ", ..)", x.set(k, 10 + k), k + 1);
        }
        values("set", x, 10, 11, 12, 13, 14, 15, 16, 17);
        due("set to the same value", x.set(7, 17), 9);
        due("set(0, MIN)", x.set(0, MIN), 10);
        due("get(0)", x.get(0), MIN);
        due("set(7, MAX)", x.set(7, MAX), 11);
        due("get(7)", x.get(7), MAX);
        for (int k : NOT_KEYS) {
            due("set(" + k + ", 1)", x.set(k, 1), BAD_ARG);
        }
        due("point()", x.point(), 11);
        fill(x);
        due("set beyond point 30", x.set(0, 99), FULL);
        due("set beyond point 30 to the same value", x.set(0, 30), FULL);
        for (int k : NOT_KEYS) {
            due("full: set(" + k + ", 1)", x.set(k, 1), BAD_ARG);
        }
        due("get(0)", x.get(0), 30);
        due("point()", x.point(), 30);
    }

    private static void exchange() {
        CHECKS.part("promise 3, exchange");
        PointInTime x = new PointInTime();
        x.set(0, 5);
        x.set(7, -3);
        due("exchange(0, 7)", x.exchange(0, 7), 3);
        values("exchanged", x, -3, 0, 0, 0, 0, 0, 0, 5);
        due("exchange(7, 3)", x.exchange(7, 3), 4);
        values("exchanged", x, -3, 0, 0, 5, 0, 0, 0, 0);
        due("the same key", x.exchange(3, 3), 5);
        due("the same values", x.exchange(1, 2), 6);
        values("not altered", x, -3, 0, 0, 5, 0, 0, 0, 0);
        due("before it", x.valueAt(0, 2, 7), -3);
        for (int k : NOT_KEYS) {
            due("exchange(" + k + ", 0)", x.exchange(k, 0), BAD_ARG);
            due("exchange(0, " + k + ")", x.exchange(0, k), BAD_ARG);
            due("exchange(" + k + ", " + k + ")", x.exchange(k, k), BAD_ARG);
        }
        due("point()", x.point(), 6);
        fill(x);
        due("exchange beyond point 30", x.exchange(0, 3), FULL);
        due("exchange of one key beyond point 30", x.exchange(0, 0), FULL);
        for (int k : NOT_KEYS) {
            due("full: exchange(" + k + ", 0)", x.exchange(k, 0), BAD_ARG);
            due("full: exchange(0, " + k + ")", x.exchange(0, k), BAD_ARG);
        }
        values("full", x, 30, 0, 0, 5, 0, 0, 0, 0);
    }

    private static void add() {
        CHECKS.part("promise 4, add");
        PointInTime x = new PointInTime();
        due("add(0, 4)", x.add(0, 4), 1);
        due("add(0, -6)", x.add(0, -6), 2);
        due("get(0)", x.get(0), -2);
        due("add(7, MAX)", x.add(7, MAX), 3);
        due("add(7, 1)", x.add(7, 1), 4);
        due("get(7), wrapped", x.get(7), MIN);
        due("add(7, -1)", x.add(7, -1), 5);
        due("get(7), wrapped back", x.get(7), MAX);
        due("add(7, 0)", x.add(7, 0), 6);
        values("added", x, -2, 0, 0, 0, 0, 0, 0, MAX);
        for (int k : NOT_KEYS) {
            due("add(" + k + ", 1)", x.add(k, 1), BAD_ARG);
        }
        due("point()", x.point(), 6);
        fill(x);
        due("add beyond point 30", x.add(0, 1), FULL);
        due("add of 0 beyond point 30", x.add(0, 0), FULL);
        for (int k : NOT_KEYS) {
            due("full: add(" + k + ", 1)", x.add(k, 1), BAD_ARG);
        }
        values("full", x, 30, 0, 0, 0, 0, 0, 0, MAX);
    }

    private static void get() {
        CHECKS.part("promise 5, get");
        PointInTime x = new PointInTime();
        for (int k = 0; k < 8; k++) {
            x.set(k, -1 - k);
        }
        values("get", x, -1, -2, -3, -4, -5, -6, -7, -8);
        for (int k : NOT_KEYS) {
            due("get(" + k + ")", x.get(k), 0);
        }
        x.restore(0, 8);
        x.set(3, 44);
        for (int k : NOT_KEYS) {
            due("on timeline 1: get(" + k + ")", x.get(k), 0);
        }
        due("get(3)", x.get(3), 44);
    }

    private static void timelineAndPoint() {
        CHECKS.part("promises 6 and 7, timeline and point");
        PointInTime x = new PointInTime();
        x.set(0, 1);
        x.exchange(0, 1);
        x.add(0, 1);
        due("timeline()", x.timeline(), 0);
        due("point()", x.point(), 3);
        x.restore(0, 2);
        due("timeline()", x.timeline(), 1);
        due("point()", x.point(), 2);
        x.set(0, 1);
        due("timeline()", x.timeline(), 1);
        due("point()", x.point(), 3);
        x.restore(0, 0);
        due("timeline()", x.timeline(), 2);
        due("point()", x.point(), 0);
        x.restore(9, 0);
        x.restore(0, 9);
        due("after a refused restore: timeline()", x.timeline(), 2);
        due("after a refused restore: point()", x.point(), 0);
        fill(x);
        due("full: point()", x.point(), 30);
    }

    private static void restore() {
        CHECKS.part("promise 8, restore");
        PointInTime x = new PointInTime();
        x.set(0, 5);
        x.set(1, 6);
        x.set(0, 7);
        due("restore(0, 2)", x.restore(0, 2), 1);
        values("restored", x, 5, 6, 0, 0, 0, 0, 0, 0);
        due("goes on at n + 1", x.set(2, 8), 3);
        due("restore of a restored one's shared point", x.restore(1, 1), 2);
        values("restored", x, 5, 0, 0, 0, 0, 0, 0, 0);
        due("restore of a restored one's own point", x.restore(1, 3), 3);
        values("restored", x, 5, 6, 8, 0, 0, 0, 0, 0);
        due("restore of the present one's last point", x.restore(3, 3), 4);
        values("restored", x, 5, 6, 8, 0, 0, 0, 0, 0);
        due("restore of the begin", x.restore(2, 0), 5);
        values("restored", x, 0, 0, 0, 0, 0, 0, 0, 0);
        due("point()", x.point(), 0);
        due("a seventh timeline", x.restore(0, 0), FULL);

        PointInTime y = new PointInTime();
        fill(y);
        due("restore(0, 30)", y.restore(0, 30), 1);
        due("point()", y.point(), 30);
        due("full from its begin", y.set(0, 1), FULL);
        due("restore(1, 29)", y.restore(1, 29), 2);
        due("has room for one", y.set(0, 1), 30);
        due("and not for two", y.set(0, 2), FULL);
    }

    private static void restoredTimelinesAreApart() {
        CHECKS.part("promise 8, timelines are apart");
        PointInTime x = new PointInTime();
        x.set(0, 1);
        x.set(0, 2);
        x.set(0, 3);
        x.restore(0, 1);
        x.set(0, 20);
        x.set(0, 30);
        x.set(0, 40);
        due("lastPoint(0)", x.lastPoint(0), 3);
        due("lastPoint(1)", x.lastPoint(1), 4);
        for (int p = 0; p <= 3; p++) {
            due("valueAt(0, " + p + ", 0)", x.valueAt(0, p, 0), p);
        }
        due("valueAt(1, 0, 0)", x.valueAt(1, 0, 0), 0);
        due("valueAt(1, 1, 0)", x.valueAt(1, 1, 0), 1);
        due("valueAt(1, 2, 0)", x.valueAt(1, 2, 0), 20);
        due("valueAt(1, 4, 0)", x.valueAt(1, 4, 0), 40);
        due("a point only of timeline 1", x.restore(0, 4), NONE);
        due("restore(1, 4)", x.restore(1, 4), 2);
        due("get(0)", x.get(0), 40);

        // A whole timeline beside another: a state out of its place would be seen in its neighbour.
        PointInTime y = new PointInTime();
        for (int t = 0; t < 6; t++) {
            for (int p = 1; p <= 30; p++) {
                y.set(p % 8, 100 * t + p);
            }
            if (t < 5) {
                due("restore(" + t + ", 0)", y.restore(t, 0), t + 1);
            }
        }
        for (int t = 0; t < 6; t++) {
            for (int p = 1; p <= 30; p++) {
                due("valueAt(" + t + ", " + p + ", ..)", y.valueAt(t, p, p % 8), 100 * t + p);
            }
            due("valueAt(" + t + ", 0, 7)", y.valueAt(t, 0, 7), 0);
        }
    }

    private static void restoreRefused() {
        CHECKS.part("promise 8, restore refused");
        PointInTime x = new PointInTime();
        x.set(0, 1);
        int[][] nowhere = {{1, 0}, {-1, 0}, {5, 0}, {6, 0}, {MIN, 0}, {MAX, 0},
            {0, 2}, {0, -1}, {0, 30}, {0, 31}, {0, MIN}, {0, MAX}, {1, -1}, {-1, -1}};
        for (int[] at : nowhere) {
            due("restore(" + at[0] + ", " + at[1] + ")", x.restore(at[0], at[1]), NONE);
        }
        due("timeline()", x.timeline(), 0);
        for (int t = 1; t <= 5; t++) {
            due("restore(0, 1)", x.restore(0, 1), t);
        }
        due("a seventh timeline", x.restore(0, 1), FULL);
        due("a seventh timeline from the present one", x.restore(5, 0), FULL);
        due("no such timeline goes before full", x.restore(6, 0), NONE);
        due("no such point goes before full", x.restore(0, 2), NONE);
        due("no such point goes before full", x.restore(0, -1), NONE);
        due("timeline()", x.timeline(), 5);
        due("point()", x.point(), 1);
        due("the sixth timeline goes on", x.set(7, 3), 2);
        due("valueAt(5, 2, 7)", x.valueAt(5, 2, 7), 3);
    }

    private static void valueAt() {
        CHECKS.part("promise 9, valueAt");
        PointInTime x = new PointInTime();
        x.set(0, 3);
        x.set(7, 4);
        x.exchange(0, 7);
        x.add(7, 10);
        due("valueAt(0, 0, 0)", x.valueAt(0, 0, 0), 0);
        due("valueAt(0, 1, 0)", x.valueAt(0, 1, 0), 3);
        due("valueAt(0, 1, 7)", x.valueAt(0, 1, 7), 0);
        due("valueAt(0, 2, 0)", x.valueAt(0, 2, 0), 3);
        due("valueAt(0, 2, 7)", x.valueAt(0, 2, 7), 4);
        due("valueAt(0, 3, 0)", x.valueAt(0, 3, 0), 4);
        due("valueAt(0, 3, 7)", x.valueAt(0, 3, 7), 3);
        due("valueAt(0, 4, 7)", x.valueAt(0, 4, 7), 13);
        x.restore(0, 2);
        due("valueAt(1, 2, 7)", x.valueAt(1, 2, 7), 4);
        due("a point the branch does not have", x.valueAt(1, 3, 7), 0);
        due("timeline 0 keeps it", x.valueAt(0, 3, 7), 3);
        for (int k : NOT_KEYS) {
            due("valueAt(0, 1, " + k + ")", x.valueAt(0, 1, k), 0);
        }
        for (int n : new int[] {5, -1, 30, 31, MIN, MAX}) {
            due("valueAt(0, " + n + ", 0)", x.valueAt(0, n, 0), 0);
        }
        for (int t : new int[] {2, 5, 6, -1, MIN, MAX}) {
            due("valueAt(" + t + ", 0, 0)", x.valueAt(t, 0, 0), 0);
        }
        fill(x);
        due("valueAt(1, 30, 0)", x.valueAt(1, 30, 0), 30);
        due("valueAt(1, 30, 7)", x.valueAt(1, 30, 7), 4);
        due("valueAt(1, 31, 0)", x.valueAt(1, 31, 0), 0);
        x.restore(1, 30);
        due("before the begin of timeline 2", x.valueAt(2, -1, 0), 0);
        due("behind the end of timeline 1", x.valueAt(1, 32, 0), 0);
    }

    private static void lastPoint() {
        CHECKS.part("promise 10, lastPoint");
        PointInTime x = new PointInTime();
        due("lastPoint(0)", x.lastPoint(0), 0);
        x.set(0, 1);
        x.set(0, 1);
        due("lastPoint(0)", x.lastPoint(0), 2);
        for (int t : new int[] {1, 5, 6, -1, MIN, MAX}) {
            due("lastPoint(" + t + ")", x.lastPoint(t), NONE);
        }
        for (int t = 1; t <= 5; t++) {
            x.restore(0, 1);
            due("lastPoint(" + t + ")", x.lastPoint(t), 1);
            due("lastPoint(" + (t + 1) + ")", x.lastPoint(t + 1), NONE);
        }
        fill(x);
        due("lastPoint(5)", x.lastPoint(5), 30);
        due("lastPoint(4)", x.lastPoint(4), 1);
        due("lastPoint(0)", x.lastPoint(0), 2);
        due("lastPoint(6)", x.lastPoint(6), NONE);
    }

    private static void lastChange() {
        CHECKS.part("promise 11, lastChange");
        PointInTime x = new PointInTime();
        due("at the begin", x.lastChange(0, 0, 0), 0);
        x.set(0, 0);
        due("set to the value it had", x.lastChange(0, 1, 0), 0);
        x.set(0, 5);
        x.set(0, 5);
        x.add(0, 0);
        x.exchange(0, 0);
        x.exchange(0, 7);
        x.exchange(1, 2);
        x.add(7, 1);
        due("before it", x.lastChange(0, 1, 0), 0);
        due("at it", x.lastChange(0, 2, 0), 2);
        due("changes to the same value do not count", x.lastChange(0, 5, 0), 2);
        due("exchange, first key", x.lastChange(0, 6, 0), 6);
        due("exchange, second key", x.lastChange(0, 6, 7), 6);
        due("exchange of the same values", x.lastChange(0, 8, 1), 0);
        due("add", x.lastChange(0, 8, 7), 8);
        due("before the add", x.lastChange(0, 7, 7), 6);
        due("another key's changes", x.lastChange(0, 8, 0), 6);
        due("never changed", x.lastChange(0, 8, 4), 0);
        for (int k : NOT_KEYS) {
            due("lastChange(0, 1, " + k + ")", x.lastChange(0, 1, k), BAD_ARG);
            due("the key is tested before the timeline", x.lastChange(1, 0, k), BAD_ARG);
            due("the key is tested before the point", x.lastChange(0, 9, k), BAD_ARG);
        }
        for (int n : new int[] {9, -1, 30, 31, MIN, MAX}) {
            due("lastChange(0, " + n + ", 0)", x.lastChange(0, n, 0), NONE);
        }
        for (int t : new int[] {1, 5, 6, -1, MIN, MAX}) {
            due("lastChange(" + t + ", 0, 0)", x.lastChange(t, 0, 0), NONE);
        }
    }

    private static void lastChangeOnBranches() {
        CHECKS.part("promise 11, lastChange on branches");
        PointInTime x = new PointInTime();
        x.set(0, 1);
        x.set(1, 1);
        x.set(0, 2);
        x.restore(0, 2);
        due("before the branching", x.lastChange(1, 2, 0), 1);
        x.set(0, 1);
        due("the same value as before the branching", x.lastChange(1, 3, 0), 1);
        due("timeline 0 is as it was", x.lastChange(0, 3, 0), 3);
        x.set(0, 9);
        due("after the branching", x.lastChange(1, 4, 0), 4);
        due("timeline 0 has no point 4", x.lastChange(0, 4, 0), NONE);

        // Away and back: the value at n is the one at 0, yet it was changed.
        PointInTime y = new PointInTime();
        y.set(3, 1);
        y.set(3, 0);
        due("back to 0", y.lastChange(0, 2, 3), 2);
        fill(y);
        due("lastChange(0, 30, 0)", y.lastChange(0, 30, 0), 30);
        due("lastChange(0, 30, 3)", y.lastChange(0, 30, 3), 2);
        due("lastChange(0, 31, 0)", y.lastChange(0, 31, 0), NONE);
        y.restore(0, 0);
        due("point 0 is not held against another timeline's end", y.lastChange(1, 0, 0), 0);
    }

    private static void differs() {
        CHECKS.part("promise 12, differs");
        PointInTime x = new PointInTime();
        due("differs(0, 0)", x.differs(0, 0), 0);
        for (int k = 0; k < 8; k++) {
            x.set(k, k + 1);
            due("differs(0, 0)", x.differs(0, 0), k + 1);
            due("differs from now", x.differs(0, k + 1), 0);
        }
        due("differs(0, 3)", x.differs(0, 3), 5);
        x.set(0, 0);
        due("back to 0", x.differs(0, 0), 7);
        x.restore(0, 2);
        due("differs(0, 9)", x.differs(0, 9), 7);
        due("differs(0, 2)", x.differs(0, 2), 0);
        due("differs(1, 2)", x.differs(1, 2), 0);
        x.set(0, -1);
        due("differs(1, 3)", x.differs(1, 3), 0);
        due("differs(0, 2)", x.differs(0, 2), 1);
        due("a point only of timeline 0", x.differs(1, 4), NONE);
        for (int n : new int[] {10, -1, 30, 31, MIN, MAX}) {
            due("differs(0, " + n + ")", x.differs(0, n), NONE);
        }
        for (int t : new int[] {2, 5, 6, -1, MIN, MAX}) {
            due("differs(" + t + ", 0)", x.differs(t, 0), NONE);
        }
    }

    private static void crash() {
        CHECKS.part("promise 13, crash");
        PointInTime x = new PointInTime();
        due("crash() at the begin", x.crash(), 0);
        due("point()", x.point(), 0);
        x.set(0, 5);
        x.exchange(0, 1);
        due("crash()", x.crash(), 0);
        due("crash() again", x.crash(), 0);
        values("crashed", x, 0, 5, 0, 0, 0, 0, 0, 0);
        due("point()", x.point(), 2);
        due("goes on", x.add(1, 1), 3);
        x.restore(0, 1);
        x.set(2, 9);
        due("crash()", x.crash(), 0);
        due("timeline()", x.timeline(), 1);
        due("point()", x.point(), 2);
        values("crashed", x, 5, 0, 9, 0, 0, 0, 0, 0);
        due("lastPoint(0)", x.lastPoint(0), 3);
        due("valueAt(0, 3, 1)", x.valueAt(0, 3, 1), 6);
        fill(x);
        due("crash() when full", x.crash(), 0);
        due("full as before", x.set(0, 1), FULL);
    }

    private static void backup() {
        CHECKS.part("promise 14, backup");
        PointInTime x = new PointInTime();
        for (int many = 0; many <= 8; many++) {
            due("backup(" + many + ")", x.backup(many), 0);
        }
        for (int many : NOT_COUNTS) {
            due("backup(" + many + ")", x.backup(many), BAD_ARG);
        }
        fill(x);
        for (int turn = 0; turn < 20; turn++) {
            due("backup(1)", x.backup(1), 0);
            due("backup(9)", x.backup(9), BAD_ARG);
        }
    }

    private static void flush() {
        CHECKS.part("promise 15, flush");
        PointInTime x = new PointInTime();
        for (int many = 0; many <= 8; many++) {
            due("flush(" + many + ")", x.flush(many), 0);
        }
        for (int many : NOT_COUNTS) {
            due("flush(" + many + ")", x.flush(many), BAD_ARG);
        }
        x.set(0, 1);
        x.set(5, 6);
        due("flush(1)", x.flush(1), 0);
        due("crash()", x.crash(), 0);
        values("flushed in part, then crashed", x, 1, 0, 0, 0, 0, 6, 0, 0);
        due("point()", x.point(), 2);
        x.exchange(0, 5);
        due("flush(8)", x.flush(8), 0);
        x.restore(0, 1);
        due("crash()", x.crash(), 0);
        values("flushed on another timeline, then crashed", x, 1, 0, 0, 0, 0, 0, 0, 0);
        due("flush(8)", x.flush(8), 0);
        due("valueAt(0, 3, 0)", x.valueAt(0, 3, 0), 6);
    }

    /** Changes that are not idempotent, made between a backup's steps and restored from every side of it. */
    private static void backupWhileItGoesOn() {
        CHECKS.part("promises 13 to 15, a backup while it goes on");
        PointInTime x = new PointInTime();
        x.set(0, 1);
        x.set(7, 8);
        due("backup(0), begins", x.backup(0), 0);
        due("backup(4)", x.backup(4), 0);
        x.exchange(0, 7);
        x.add(0, 100);
        due("backup(3)", x.backup(3), 0);
        x.exchange(7, 0);
        due("flush(1)", x.flush(1), 0);
        due("backup(1), ends", x.backup(1), 0);
        x.add(7, 1000);
        due("crash()", x.crash(), 0);
        values("now", x, 1, 0, 0, 0, 0, 0, 0, 1108);
        int[][] ends = {{2, 1, 8}, {3, 8, 1}, {4, 108, 1}, {5, 1, 108}, {6, 1, 1108}};
        for (int[] end : ends) {
            x.backup(8);
            x.restore(0, end[0]);
            x.backup(8);
            x.crash();
            values("restored at " + end[0], x, end[1], 0, 0, 0, 0, 0, 0, end[2]);
            due("point()", x.point(), end[0]);
        }
    }

    private static void digest() {
        CHECKS.part("promise 16, digest");
        PointInTime x = new PointInTime();
        due("digest()", x.digest(), 0);
        int want = 0;
        int[] digits = {1, 10, 100, 1000, 10000, 100000, 1000000, 10000000};
        for (int k = 0; k < 8; k++) {
            x.set(k, digits[k]);
            want += (k + 1) * digits[k];
            due("digest()", x.digest(), want);
        }
        due("digest()", x.digest(), 87654321);
        x.restore(0, 2);
        due("digest() of the restored", x.digest(), 21);
        x.set(7, MAX);
        due("wraps in the product", x.digest(), 21 - 8);
        x.restore(0, 0);
        x.set(0, MAX);
        x.set(1, 1);
        due("wraps in the sum", x.digest(), MIN + 1);
        x.set(0, MIN);
        x.set(1, -1);
        due("wraps downwards", x.digest(), MAX - 1);
    }

    private static void refusedCallsChangeNothing() {
        CHECKS.part("a refused call changes nothing");
        PointInTime x = new PointInTime();
        x.set(0, 4);
        x.restore(0, 1);
        fill(x);
        x.restore(1, 30);
        x.restore(2, 30);
        x.restore(3, 30);
        x.restore(4, 30);
        for (int bad : NOT_KEYS) {
            due("set", x.set(bad, 1), BAD_ARG);
            due("add", x.add(bad, 1), BAD_ARG);
            due("exchange", x.exchange(bad, 0), BAD_ARG);
            due("restore, timeline", x.restore(bad, 0), NONE);
            due("backup", x.backup(bad == 8 ? 9 : bad), BAD_ARG);
            due("flush", x.flush(bad == 8 ? 9 : bad), BAD_ARG);
        }
        due("set", x.set(0, 1), FULL);
        due("add", x.add(0, 1), FULL);
        due("exchange", x.exchange(0, 1), FULL);
        due("restore", x.restore(0, 0), FULL);
        due("restore, point", x.restore(0, 2), NONE);
        due("timeline()", x.timeline(), 5);
        due("point()", x.point(), 30);
        due("digest()", x.digest(), 30);
        due("lastPoint(0)", x.lastPoint(0), 1);
        for (int t = 1; t < 6; t++) {
            due("lastPoint(" + t + ")", x.lastPoint(t), 30);
            due("differs(" + t + ", 30)", x.differs(t, 30), 0);
            due("valueAt(" + t + ", 1, 0)", x.valueAt(t, 1, 0), 4);
        }
    }
}
