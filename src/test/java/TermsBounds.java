import java.util.ArrayList;
import java.util.List;

/** "What it is" and "Terms", sentence by sentence. */
final class TermsBounds {
    private static final Bounds BOUNDS = DocumentTest.BOUNDS;

    static void all() {
        historyIsKept();
        calls512();
        laterCalls();
        keysAtFirst();
        keysHoldInts();
        changeSetsOneOrTwoKeys();
        timelinesAtMost5();
        timeline0Begins();
        pointsAreNumbered();
        pointZeroIsTheBegin();
        everyChangeMakesTheNextPoint();
        stateAtAPoint();
        restoringHasThePoints();
        goesOnFromThere();
        atMost30Points();
        backupsAreNotSeen();
        noCallThrows();
        refusedCallsChangeNothing();
        constants();
    }

    /** One call of each kind, none of them refused where there is room. */
    private static List<Call> oneOfEach() {
        return List.of(Call.set(7, Bounds.MAX), Call.exchange(0, 7), Call.add(0, -1), Call.get(0), Call.timeline(),
            Call.point(), Call.restore(0, 1), Call.valueAt(0, 1, 0), Call.lastPoint(0), Call.lastChange(0, 1, 0),
            Call.differs(0, 0), Call.crash(), Call.backup(8), Call.flush(8), Call.digest());
    }

    private static Run repeated(Run before, int times, Call... calls) {
        List<Call> all = new ArrayList<>();
        for (int i = 0; i < times; i++) {
            all.add(calls[i % calls.length]);
        }
        return before.then(before + ", then " + times + " calls", all);
    }

    private static void historyIsKept() {
        BOUNDS.sentence("What it is", "A store whose history is kept: backups made while it goes on, a log, "
            + "and restoring it as it was after any change, on branches of time.");
        for (int n = 0; n <= 20; n++) {
            PointInTime x = new PointInTime();
            int[][] seen = new int[21][8];
            changeAndSee(x, 1, seen);
            BOUNDS.due("restore(0, " + n + ")", x.restore(0, n), 1);
            BOUNDS.valuesNow("restore(0, " + n + ")", x, seen[n]);
            changeAndSee(x, n + 1, seen);
            for (int m = 0; m <= 20; m += 10) {
                BOUNDS.due("restore(1, " + m + ")", x.restore(1, m), 2 + m / 10);
                BOUNDS.valuesNow("restored at " + n + ", then restore(1, " + m + ")", x, seen[m]);
            }
        }
    }

    /** Makes the points from this one to 20 while backups are made, and notes what the values are at each. */
    private static void changeAndSee(PointInTime x, int first, int[][] seen) {
        for (int p = first; p <= 20; p++) {
            switch (p % 3) {
                case 0 -> x.exchange(p % 8, (p + 5) % 8);
                case 1 -> x.set(p % 8, 100 * first + p);
                default -> x.add((p + 3) % 8, -p);
            }
            if (p % 4 == 0) {
                x.backup(p % 9);
                x.flush(2);
                x.crash();
            }
            for (int k = 0; k <= 7; k++) {
                seen[p][k] = x.get(k);
            }
        }
    }

    private static void calls512() {
        BOUNDS.sentence("What it is", "An object is used for at most 512 calls after it has been made");
        Run before = Run.empty().then("one change", Call.set(0, 5));
        Run idle = repeated(before, 510, Call.crash(), Call.backup(1), Call.flush(8), Call.backup(0), Call.get(0));
        BOUNDS.due("calls made", idle.length(), 511);
        int[] wants = {2, 2, 2, 5, 0, 1, 1, 5, 1, 1, 1, 0, 0, 0, 5};
        for (int i = 0; i < wants.length; i++) {
            BOUNDS.due(idle, oneOfEach().get(i), wants[i]);
        }
        Run refused = repeated(before, 510, Call.set(8, 1), Call.restore(0, 2), Call.backup(9), Call.lastPoint(1));
        Run changed = repeated(before, 510, Call.add(3, 1), Call.restore(0, 1), Call.exchange(3, 0), Call.set(7, 2));
        for (Run run : List.of(refused, changed)) {
            for (Call last : oneOfEach()) {
                BOUNDS.due(run, last, last.on(run.model()));
            }
        }
    }

    private static void laterCalls() {
        BOUNDS.sentence("What it is", "what later calls answer is free");
        // Even then no call may throw: the rules of LANGUAGE.md know no last call.
        for (Run state : Bounds.STATES) {
            PointInTime x = state.made();
            for (int i = state.length(); i < 5000; i++) {
                throwsNothing(state, oneOfEach().get(i % 15), x);
            }
        }
    }

    private static void keysAtFirst() {
        BOUNDS.sentence("Terms", "KEYS are 0 to 7, each with a value (an int), 0 at first.");
        for (int k = 0; k <= 7; k++) {
            BOUNDS.due(Bounds.EMPTY, Call.get(k), 0);
            BOUNDS.due(Bounds.EMPTY, Call.valueAt(0, 0, k), 0);
            BOUNDS.due(Bounds.EMPTY, Call.set(k, 1), 1);
        }
        for (int k : Bounds.NOT_KEYS) {
            BOUNDS.refused(Bounds.EMPTY, Call.set(k, 1), Bounds.BAD_ARG);
        }
    }

    private static void keysHoldInts() {
        BOUNDS.sentence("Terms", "KEYS are 0 to 7, each with a value (an int)");
        for (int k = 0; k <= 7; k++) {
            PointInTime x = new PointInTime();
            for (int v : Bounds.VALUES) {
                x.set(k, v);
                BOUNDS.due("set(" + k + ", " + v + "), then get", x.get(k), v);
                BOUNDS.due("set(" + k + ", " + v + "), then valueAt", x.valueAt(0, x.point(), k), v);
            }
        }
    }

    private static void changeSetsOneOrTwoKeys() {
        BOUNDS.sentence("Terms", "A CHANGE sets one or two keys.");
        for (int k = 0; k <= 7; k++) {
            for (int l = 0; l <= 7; l++) {
                PointInTime x = Bounds.BUSY.made();
                int[] want = {Bounds.MIN, -1, 2, 22, 44, 55, -66, Bounds.MAX};
                x.exchange(k, l);
                int kept = want[k];
                want[k] = want[l];
                want[l] = kept;
                BOUNDS.valuesNow("exchange(" + k + ", " + l + ")", x, want);
                x.set(k, 777);
                want[k] = 777;
                BOUNDS.valuesNow("set(" + k + ", 777)", x, want);
                x.add(l, 8);
                want[l] += 8;
                BOUNDS.valuesNow("add(" + l + ", 8)", x, want);
            }
        }
    }

    private static void timelinesAtMost5() {
        BOUNDS.sentence("Terms", "TIMELINES are numbered 0, 1, .., at most 5");
        for (Run state : List.of(Bounds.EMPTY, Bounds.BUSY)) {
            PointInTime x = state.made();
            BOUNDS.due("timeline()", x.timeline(), 0);
            for (int t = 1; t <= 5; t++) {
                BOUNDS.due("there is no timeline " + t + " yet", x.lastPoint(t), Bounds.NONE);
                BOUNDS.due("restore(0, 0)", x.restore(0, 0), t);
                BOUNDS.due("timeline()", x.timeline(), t);
                BOUNDS.due("lastPoint(" + t + ")", x.lastPoint(t), 0);
            }
            BOUNDS.due("a seventh", x.restore(0, 0), Bounds.FULL);
            BOUNDS.due("timeline()", x.timeline(), 5);
            for (int t : Bounds.NEVER_TIMELINES) {
                BOUNDS.due("lastPoint(" + t + ")", x.lastPoint(t), Bounds.NONE);
            }
        }
    }

    private static void timeline0Begins() {
        BOUNDS.sentence("Terms", "timeline 0 begins with all values 0");
        for (Run state : Bounds.STATES) {
            PointInTime x = state.made();
            for (int k = 0; k <= 7; k++) {
                BOUNDS.due(state + ": valueAt(0, 0, " + k + ")", x.valueAt(0, 0, k), 0);
            }
        }
        PointInTime x = Bounds.BUSY.made();
        x.restore(0, 0);
        BOUNDS.valuesNow("restore(0, 0)", x, new int[8]);
    }

    private static void pointsAreNumbered() {
        BOUNDS.sentence("Terms", "A timeline has the POINTS 0, 1, 2, ..");
        int[] lasts = {9, 9, 11};
        PointInTime x = Bounds.BRANCHED.made();
        for (int t = 0; t <= 2; t++) {
            for (int n = -2; n <= 32; n++) {
                boolean has = 0 <= n && n <= lasts[t];
                BOUNDS.holds("timeline " + t + ", point " + n, (x.differs(t, n) != Bounds.NONE) == has);
                BOUNDS.holds("timeline " + t + ", point " + n, (x.lastChange(t, n, 0) != Bounds.NONE) == has);
                BOUNDS.due(Bounds.BRANCHED, Call.restore(t, n), has ? 3 : Bounds.NONE);
            }
        }
    }

    private static void pointZeroIsTheBegin() {
        BOUNDS.sentence("Terms", "point 0 of timeline 0 is its begin");
        BOUNDS.due(Bounds.EMPTY, Call.point(), 0);
        BOUNDS.due(Bounds.EMPTY, Call.lastPoint(0), 0);
        BOUNDS.due(Bounds.EMPTY, Call.differs(0, 0), 0);
        BOUNDS.due(Bounds.EMPTY, Call.differs(0, -1), Bounds.NONE);
        BOUNDS.due(Bounds.EMPTY, Call.differs(0, 1), Bounds.NONE);
        BOUNDS.due(Bounds.EMPTY, Call.restore(0, 0), 1);
    }

    private static void everyChangeMakesTheNextPoint() {
        BOUNDS.sentence("Terms", "every change makes the next point of the timeline that is PRESENT");
        Call[] changes = {Call.set(0, 0), Call.add(7, 0), Call.exchange(3, 3), Call.exchange(3, 4),
            Call.set(1, 5), Call.set(1, 5), Call.add(1, -5), Call.exchange(0, 7)};
        BOUNDS.dueInTurn(Bounds.EMPTY, changes, new int[] {1, 2, 3, 4, 5, 6, 7, 8});
        BOUNDS.dueInTurn(Bounds.BRANCHED, changes, new int[] {12, 13, 14, 15, 16, 17, 18, 19});
        Run after = Bounds.BRANCHED.then("branched and changed", changes);
        BOUNDS.due(after, Call.point(), 19);
        BOUNDS.due(after, Call.lastPoint(2), 19);
        BOUNDS.due(after, Call.lastPoint(1), 9);
        BOUNDS.due(after, Call.lastPoint(0), 9);
        for (Call call : oneOfEach().subList(3, 15)) {
            if (!call.text().startsWith("restore")) {
                BOUNDS.unseen(Bounds.BUSY, call, call.on(Bounds.BUSY.model()));
            }
        }
    }

    private static void stateAtAPoint() {
        BOUNDS.sentence("Terms", "The STATE at a point is the values after all changes up to it.");
        for (int last = 1; last <= 30; last++) {
            PointInTime x = new PointInTime();
            for (int p = 1; p <= last; p++) {
                x.add(p % 8, p);
            }
            BOUNDS.due("the change of the point is in it", x.valueAt(0, last, last % 8) - last,
                x.valueAt(0, last - 1, last % 8));
            BOUNDS.due("the state at the last point is the one now", x.differs(0, last), 0);
            BOUNDS.due("the state before it is not", x.differs(0, last - 1), 1);
        }
        Run run = Bounds.EMPTY.then("one key set at every point");
        for (int p = 1; p <= 30; p++) {
            run = run.then(run.toString(), Call.set(7, p));
        }
        for (int n = 0; n <= 30; n++) {
            BOUNDS.due(run, Call.valueAt(0, n, 7), n);
        }
    }

    private static void restoringHasThePoints() {
        BOUNDS.sentence("Terms", "RESTORING point n of timeline t makes a new timeline, present from then on, "
            + "that has the points 0 to n of timeline t, with their states");
        for (int t = 0; t <= 4; t++) {
            for (int n : new int[] {0, 1, 29, 30}) {
                restoredIsLike(t, n);
            }
        }
    }

    private static void restoredIsLike(int t, int n) {
        Run before = fiveFull();
        Run after = before.then("five full timelines, then restore(" + t + ", " + n + ")", Call.restore(t, n));
        BOUNDS.due(before, Call.restore(t, n), 5);
        BOUNDS.due(after, Call.timeline(), 5);
        BOUNDS.due(after, Call.point(), n);
        BOUNDS.due(after, Call.lastPoint(5), n);
        BOUNDS.due(after, Call.lastPoint(t), 30);
        BOUNDS.due(after, Call.differs(t, n), 0);
        BOUNDS.due(after, Call.differs(5, n + 1), Bounds.NONE);
        for (int p = 0; p <= 30; p++) {
            PointInTime x = after.made();
            for (int k = 0; k <= 7; k++) {
                int then = before.model().valueAt(t, p, k);
                BOUNDS.due(after + ": valueAt(5, " + p + ", " + k + ")", x.valueAt(5, p, k), p <= n ? then : 0);
                BOUNDS.due(after + ": valueAt(" + t + ", " + p + ", " + k + ")", x.valueAt(t, p, k), then);
            }
        }
    }

    private static Run fiveFull() {
        Run run = Bounds.EMPTY.upToPoint(30);
        for (int t = 0; t < 4; t++) {
            run = run.then("", Call.restore(t, 20)).upToPoint(30);
        }
        return run.then("five full timelines");
    }

    private static void goesOnFromThere() {
        BOUNDS.sentence("Terms", "and goes on from there (its next change makes point n + 1).");
        for (int n : new int[] {0, 1, 28, 29}) {
            Run restored = Bounds.FULL_TIMELINE.then("restored at " + n, Call.restore(2, n));
            BOUNDS.due(restored, Call.set(0, 3), n + 1);
            BOUNDS.due(restored, Call.add(7, 3), n + 1);
            BOUNDS.due(restored, Call.exchange(0, 7), n + 1);
            Run changed = restored.then("restored at " + n + " and changed", Call.set(7, 3));
            BOUNDS.due(changed, Call.point(), n + 1);
            BOUNDS.due(changed, Call.valueAt(3, n + 1, 7), 3);
            BOUNDS.due(changed, Call.valueAt(2, n + 1, 7), Bounds.FULL_TIMELINE.model().valueAt(2, n + 1, 7));
        }
        Run atTheLast = Bounds.FULL_TIMELINE.then("restored at 30", Call.restore(2, 30));
        BOUNDS.refused(atTheLast, Call.set(0, 3), Bounds.FULL);
        BOUNDS.refused(atTheLast, Call.add(0, 3), Bounds.FULL);
        BOUNDS.refused(atTheLast, Call.exchange(0, 7), Bounds.FULL);
    }

    private static void atMost30Points() {
        BOUNDS.sentence("Terms", "A timeline has at most 30 points besides 0.");
        Run run = Bounds.EMPTY;
        for (int t = 0; t <= 5; t++) {
            Run at29 = run.upToPoint(29);
            BOUNDS.due(at29, Call.set(7, 1), 30);
            BOUNDS.due(at29, Call.exchange(7, 7), 30);
            BOUNDS.due(at29, Call.add(7, 0), 30);
            Run at30 = run.upToPoint(30);
            BOUNDS.refused(at30, Call.set(7, 1), Bounds.FULL);
            BOUNDS.refused(at30, Call.exchange(7, 7), Bounds.FULL);
            BOUNDS.refused(at30, Call.add(7, 0), Bounds.FULL);
            BOUNDS.due(at30, Call.lastPoint(t), 30);
            BOUNDS.due(at30, Call.lastPoint(t + 1), Bounds.NONE);
            run = at30.then("timeline " + (t + 1), Call.restore(t, 10));
        }
    }

    private static void backupsAreNotSeen() {
        BOUNDS.sentence("Terms", "What the calls of backups and of the archive do can't be seen by any other call.");
        for (Run state : Bounds.STATES) {
            for (int many = 0; many <= 8; many++) {
                Run underWay = state.then(state + ", a backup under way", Call.backup(8), Call.backup(many));
                Run written = underWay.then(underWay + ", written", Call.flush(many));
                BOUNDS.unseen(state, Call.backup(many), 0);
                BOUNDS.unseen(state, Call.flush(many), 0);
                BOUNDS.unseen(underWay, Call.backup(8 - many), 0);
                BOUNDS.unseen(underWay, Call.flush(8 - many), 0);
                BOUNDS.unseen(written, Call.crash(), 0);
            }
            BOUNDS.unseen(state, Call.crash(), 0);
        }
    }

    private static void noCallThrows() {
        BOUNDS.sentence("Terms", "No call ever throws.");
        int[] edges = {Bounds.MIN, -(1 << 29), -249, -248, -31, -8, -6, -1, 0, 5, 6, 7, 8, 9, 29, 30, 31, 247, 248,
            1487, 1488, 1 << 28, 1 << 29, 1 << 30, Bounds.MAX};
        for (Run state : Bounds.STATES) {
            for (int a : edges) {
                for (int b : edges) {
                    PointInTime x = state.made();
                    for (Call call : withTwo(a, b)) {
                        throwsNothing(state, call, x);
                    }
                    for (int c : edges) {
                        throwsNothing(state, Call.valueAt(a, b, c), x);
                        throwsNothing(state, Call.lastChange(a, b, c), x);
                    }
                }
            }
        }
    }

    private static List<Call> withTwo(int a, int b) {
        return List.of(Call.get(a), Call.lastPoint(a), Call.differs(a, b), Call.backup(a), Call.flush(a), Call.crash(),
            Call.set(a, b), Call.add(a, b), Call.exchange(a, b), Call.restore(a, b), Call.timeline(), Call.point(),
            Call.digest());
    }

    private static void throwsNothing(Run state, Call call, PointInTime x) {
        try {
            call.on(x);
            BOUNDS.holds("answered", true);
        } catch (RuntimeException thrown) {
            BOUNDS.holds(state + ": " + call.text() + " throws nothing, but " + thrown, false);
        }
    }

    private static void refusedCallsChangeNothing() {
        BOUNDS.sentence("Terms", "A refused call answers the code named and changes nothing.");
        int[] edges = {Bounds.MIN, -1, 0, 5, 6, 7, 8, 9, 30, 31, Bounds.MAX};
        for (Run state : Bounds.STATES) {
            for (int a : edges) {
                for (int b : edges) {
                    for (Call call : withTwo(a, b)) {
                        refusedIfDue(state, call);
                    }
                }
            }
            for (int bad : new int[] {Bounds.MIN, -1, 8, 31, Bounds.MAX}) {
                BOUNDS.refused(state, Call.lastChange(0, 0, bad), Bounds.BAD_ARG);
                BOUNDS.refused(state, Call.lastChange(0, bad == 8 ? 32 : bad, 0), Bounds.NONE);
                BOUNDS.refused(state, Call.lastChange(bad, 0, 0), Bounds.NONE);
            }
        }
    }

    /** The model tells which calls are due to be refused; get may answer a negative value, which is none of these. */
    private static void refusedIfDue(Run state, Call call) {
        int want = call.on(state.model());
        boolean answersValue = call.text().startsWith("get") || call.text().startsWith("digest");
        if (want < 0 && !answersValue) {
            BOUNDS.refused(state, call, want);
        }
    }

    private static void constants() {
        BOUNDS.sentence("Terms", "The constants: `BAD_ARG = -1`: An argument is out of its range.");
        BOUNDS.due("BAD_ARG", PointInTime.BAD_ARG, -1);
        for (Call call : List.of(Call.set(8, 0), Call.exchange(-1, 0), Call.exchange(0, 8), Call.add(-1, 0),
                Call.lastChange(0, 0, 8), Call.backup(9), Call.flush(-1))) {
            BOUNDS.refused(Bounds.ALL_FULL, call, PointInTime.BAD_ARG);
        }
        BOUNDS.sentence("Terms", "`FULL = -2`: A limit is reached.");
        BOUNDS.due("FULL", PointInTime.FULL, -2);
        for (Call call : List.of(Call.set(7, 0), Call.exchange(0, 7), Call.add(0, 0), Call.restore(5, 30))) {
            BOUNDS.refused(Bounds.ALL_FULL, call, PointInTime.FULL);
        }
        BOUNDS.sentence("Terms", "`NONE = -4`: There is no such thing.");
        BOUNDS.due("NONE", PointInTime.NONE, -4);
        for (Call call : List.of(Call.restore(6, 0), Call.restore(5, 31), Call.lastPoint(-1), Call.lastPoint(6),
                Call.lastChange(0, 31, 0), Call.lastChange(6, 0, 0), Call.differs(0, -1), Call.differs(6, 0))) {
            BOUNDS.refused(Bounds.ALL_FULL, call, PointInTime.NONE);
        }
    }
}
