/** Promises 6 to 12, sentence by sentence: where it is, restoring, and asking about the past. */
final class TimelinesBounds {
    private static final int MIN = Bounds.MIN;
    private static final int MAX = Bounds.MAX;
    private static final int BAD_ARG = Bounds.BAD_ARG;
    private static final int FULL = Bounds.FULL;
    private static final int NONE = Bounds.NONE;

    private static final Bounds BOUNDS = DocumentTest.BOUNDS;

    static void all() {
        timelineOfThePresent();
        pointOfThePresent();
        restores();
        restoreNoTimeline();
        restoreNoPoint();
        restoreFull();
        restoreOrder();
        restoreNewTimeline();
        valueAtAPoint();
        valueAtNoPoint();
        valueAtNoKey();
        lastPointNone();
        lastChangeNOrLess();
        lastChangeAnotherValue();
        lastChangeNoneYet();
        lastChangeNoPoint();
        lastChangeKeyTestedFirst();
        differsHowMany();
        differsNoPoint();
    }

    private static void timelineOfThePresent() {
        BOUNDS.sentence("6", "The number of the present timeline.");
        PointInTime x = Bounds.BUSY.made();
        for (int t = 0; t <= 5; t++) {
            BOUNDS.due("timeline()", x.timeline(), t);
            BOUNDS.due("refused: restore(0, 10)", x.restore(0, 10), NONE);
            BOUNDS.due("refused: restore(" + (t + 1) + ", 0)", x.restore(t + 1, 0), NONE);
            BOUNDS.due("after refused ones: timeline()", x.timeline(), t);
            x.restore(0, t);
        }
        BOUNDS.due("after a seventh: timeline()", x.timeline(), 5);
        BOUNDS.unseen(Bounds.ALL_FULL, Call.timeline(), 5);
    }

    private static void pointOfThePresent() {
        BOUNDS.sentence("7", "The last point of the present timeline.");
        PointInTime x = new PointInTime();
        for (int p = 0; p <= 30; p++) {
            BOUNDS.due("point()", x.point(), p);
            x.add(7, 1);
        }
        BOUNDS.due("after a change too many: point()", x.point(), 30);
        x.restore(0, 0);
        BOUNDS.due("restored at 0: point()", x.point(), 0);
        x.restore(0, 30);
        BOUNDS.due("restored at 30: point()", x.point(), 30);
        x.restore(0, 31);
        BOUNDS.due("after a refused restore: point()", x.point(), 30);
        x.restore(2, 29);
        BOUNDS.due("restored at 29: point()", x.point(), 29);
        BOUNDS.unseen(Bounds.ALL_FULL, Call.point(), 30);
    }

    private static void restores() {
        BOUNDS.sentence("8", "Restores.");
        for (int n = 0; n <= 9; n++) {
            PointInTime x = Bounds.BUSY.made();
            String restored = "busy, restore(0, " + n + ")";
            BOUNDS.due(restored, x.restore(0, n), 1);
            BOUNDS.due(restored + ", then timeline()", x.timeline(), 1);
            BOUNDS.due(restored + ", then point()", x.point(), n);
            BOUNDS.due(restored + ", then lastPoint(0)", x.lastPoint(0), 9);
            BOUNDS.valuesNow(restored, x, Bounds.BUSY_STATES[n]);
            for (int p = 0; p <= n; p++) {
                BOUNDS.valuesAt(restored, x, 1, p, Bounds.BUSY_STATES[p]);
            }
            BOUNDS.due(restored + ", then set(6, 7)", x.set(6, 7), n + 1);
            BOUNDS.due(restored + ", then set(6, 7), then lastPoint(1)", x.lastPoint(1), n + 1);
            for (int p = 0; p <= 9; p++) {
                BOUNDS.valuesAt(restored + ", then set(6, 7)", x, 0, p, Bounds.BUSY_STATES[p]);
            }
        }
    }

    private static void restoreNoTimeline() {
        BOUNDS.sentence("8", "there is no timeline t or it has no point n answers NONE");
        for (Run state : Bounds.STATES) {
            for (int t : Bounds.NEVER_TIMELINES) {
                BOUNDS.refused(state, Call.restore(t, 0), NONE);
            }
            for (int t = state.model().timeline() + 1; t <= 6; t++) {
                BOUNDS.refused(state, Call.restore(t, 0), NONE);
                BOUNDS.refused(state, Call.restore(t, 1), NONE);
            }
        }
        BOUNDS.due(Bounds.EMPTY, Call.restore(0, 0), 1);
        BOUNDS.due(Bounds.BRANCHED, Call.restore(0, 0), 3);
        BOUNDS.due(Bounds.BRANCHED, Call.restore(2, 0), 3);
    }

    private static void restoreNoPoint() {
        BOUNDS.sentence("8", "there is no timeline t or it has no point n answers NONE");
        for (Run state : Bounds.STATES) {
            for (int t = 0; t <= state.model().timeline(); t++) {
                for (int n : Bounds.NEVER_POINTS) {
                    BOUNDS.refused(state, Call.restore(t, n), NONE);
                }
                BOUNDS.refused(state, Call.restore(t, state.model().lastPoint(t) + 1), NONE);
            }
        }
        BOUNDS.due(Bounds.BRANCHED, Call.restore(0, 9), 3);
        BOUNDS.due(Bounds.BRANCHED, Call.restore(1, 9), 3);
        BOUNDS.due(Bounds.BRANCHED, Call.restore(2, 11), 3);
        BOUNDS.due(Bounds.FULL_TIMELINE, Call.restore(2, 30), 3);
    }

    private static void restoreFull() {
        BOUNDS.sentence("8", "there are 6 timelines answers FULL");
        Run five = Bounds.BRANCHED.then("five timelines", Call.restore(0, 9), Call.restore(3, 0));
        for (int t = 0; t <= 4; t++) {
            BOUNDS.due(five, Call.restore(t, 0), 5);
        }
        for (Run state : new Run[] {Bounds.ALL_TIMELINES, Bounds.ALL_FULL}) {
            for (int t = 0; t <= 5; t++) {
                int last = state.model().lastPoint(t);
                BOUNDS.refused(state, Call.restore(t, 0), FULL);
                BOUNDS.refused(state, Call.restore(t, last), FULL);
            }
        }
    }

    private static void restoreOrder() {
        BOUNDS.sentence("8", "Tested in this order");
        for (Run state : new Run[] {Bounds.ALL_TIMELINES, Bounds.ALL_FULL}) {
            for (int t : Bounds.NEVER_TIMELINES) {
                BOUNDS.refused(state, Call.restore(t, 0), NONE);
                BOUNDS.refused(state, Call.restore(t, t), NONE);
            }
            for (int n : Bounds.NEVER_POINTS) {
                BOUNDS.refused(state, Call.restore(0, n), NONE);
                BOUNDS.refused(state, Call.restore(5, n), NONE);
            }
        }
        BOUNDS.refused(Bounds.ALL_TIMELINES, Call.restore(5, 2), NONE);
        BOUNDS.refused(Bounds.ALL_TIMELINES, Call.restore(3, 1), NONE);
    }

    private static void restoreNewTimeline() {
        BOUNDS.sentence("8", "Otherwise the number of the new timeline.");
        Call[] restores = {Call.restore(0, 9), Call.restore(1, 0), Call.restore(0, 1), Call.restore(3, 1),
            Call.restore(1, 9), Call.restore(5, 9)};
        BOUNDS.dueInTurn(Bounds.BUSY, restores, new int[] {1, 2, 3, 4, 5, FULL});
    }

    private static void valueAtAPoint() {
        BOUNDS.sentence("9", "The value of key k at point n of timeline t");
        PointInTime x = Bounds.BRANCHED.made();
        for (int n = 0; n <= 9; n++) {
            BOUNDS.valuesAt("branched", x, 0, n, Bounds.BUSY_STATES[n]);
        }
        int[] lowered = {MAX, -1, 2, 22, 44, 55, 0, MAX};
        int[] ended = {MAX, -1, 2, 22, 44, 55, 5, MAX};
        for (int t = 1; t <= 2; t++) {
            for (int n = 0; n <= 8; n++) {
                BOUNDS.valuesAt("branched", x, t, n, Bounds.BUSY_STATES[n]);
            }
            BOUNDS.valuesAt("branched", x, t, 9, lowered);
        }
        BOUNDS.valuesAt("branched", x, 2, 10, ended);
        BOUNDS.valuesAt("branched", x, 2, 11, ended);
    }

    private static void valueAtNoPoint() {
        BOUNDS.sentence("9", "0 if there is no such point or key.");
        for (Run state : Bounds.STATES) {
            Model model = state.model();
            for (int k = 0; k <= 7; k += 7) {
                for (int t : Bounds.NEVER_TIMELINES) {
                    BOUNDS.due(state, Call.valueAt(t, 0, k), 0);
                    BOUNDS.due(state, Call.valueAt(t, 1, k), 0);
                    BOUNDS.due(state, Call.valueAt(t, t, k), 0);
                }
                for (int t = model.timeline() + 1; t <= 6; t++) {
                    BOUNDS.due(state, Call.valueAt(t, 0, k), 0);
                    BOUNDS.due(state, Call.valueAt(t, 1, k), 0);
                }
                for (int t = 0; t <= model.timeline(); t++) {
                    BOUNDS.due(state, Call.valueAt(t, model.lastPoint(t) + 1, k), 0);
                    for (int n : Bounds.NEVER_POINTS) {
                        BOUNDS.due(state, Call.valueAt(t, n, k), 0);
                    }
                }
            }
            BOUNDS.unseen(state, Call.valueAt(model.timeline(), model.point() + 1, 7), 0);
            BOUNDS.unseen(state, Call.valueAt(model.timeline() + 1, 0, 7), 0);
        }
        BOUNDS.due(Bounds.BUSY, Call.valueAt(0, 9, 6), -66);
        BOUNDS.due(Bounds.BUSY, Call.valueAt(0, 9, 7), MAX);
        BOUNDS.due(Bounds.BUSY, Call.valueAt(0, 9, 0), MIN);
        BOUNDS.due(Bounds.BUSY, Call.valueAt(0, 8, 6), 0);
        BOUNDS.due(Bounds.BUSY, Call.valueAt(0, 0, 0), 0);
        Run shorter = Bounds.BUSY.then("busy, restored at 3", Call.restore(0, 3));
        BOUNDS.due(shorter, Call.valueAt(1, 3, 7), MAX);
        BOUNDS.due(shorter, Call.valueAt(1, 4, 7), 0);
        BOUNDS.due(shorter, Call.valueAt(0, 4, 7), MAX);
    }

    private static void valueAtNoKey() {
        BOUNDS.sentence("9", "0 if there is no such point or key.");
        for (Run state : Bounds.STATES) {
            Model model = state.model();
            for (int t = 0; t <= model.timeline(); t++) {
                for (int k : Bounds.NOT_KEYS) {
                    BOUNDS.due(state, Call.valueAt(t, 0, k), 0);
                    BOUNDS.due(state, Call.valueAt(t, model.lastPoint(t), k), 0);
                    BOUNDS.due(state, Call.valueAt(t, model.lastPoint(t) + 1, k), 0);
                    BOUNDS.due(state, Call.valueAt(-1, -1, k), 0);
                }
            }
            BOUNDS.unseen(state, Call.valueAt(0, 0, -1), 0);
            BOUNDS.unseen(state, Call.valueAt(0, 0, 8), 0);
        }
    }

    private static void lastPointNone() {
        BOUNDS.sentence("10", "The last point of timeline t; NONE if there is none.");
        for (Run state : Bounds.STATES) {
            for (int t : Bounds.NEVER_TIMELINES) {
                BOUNDS.refused(state, Call.lastPoint(t), NONE);
            }
            for (int t = state.model().timeline() + 1; t <= 6; t++) {
                BOUNDS.refused(state, Call.lastPoint(t), NONE);
            }
        }
        BOUNDS.due(Bounds.EMPTY, Call.lastPoint(0), 0);
        int[] branched = {9, 9, 11, NONE};
        int[] full = {9, 9, 30, NONE};
        int[] six = {9, 9, 11, 0, 12, 1, NONE};
        int[] sixFull = {30, 30, 30, 30, 30, 30, NONE};
        lastPoints(Bounds.BRANCHED, branched);
        lastPoints(Bounds.FULL_TIMELINE, full);
        lastPoints(Bounds.ALL_TIMELINES, six);
        lastPoints(Bounds.ALL_FULL, sixFull);
    }

    private static void lastPoints(Run state, int[] want) {
        for (int t = 0; t < want.length; t++) {
            BOUNDS.due(state, Call.lastPoint(t), want[t]);
        }
    }

    private static void lastChangeNOrLess() {
        BOUNDS.sentence("11", "The last point of timeline t, n or less");
        Run run = Bounds.EMPTY.then("changed at 1, 3 and 30", Call.set(0, 1), Call.set(7, 1), Call.set(0, 2));
        for (int p = 4; p <= 29; p++) {
            run = run.then(run.toString(), Call.set(1, p));
        }
        run = run.then(run.toString(), Call.set(0, 3));
        for (int n = 0; n <= 30; n++) {
            int want = n == 0 ? 0 : n < 3 ? 1 : n < 30 ? 3 : 30;
            BOUNDS.due(run, Call.lastChange(0, n, 0), want);
            BOUNDS.due(run, Call.lastChange(0, n, 7), n < 2 ? 0 : 2);
        }
        Run branch = run.then(run + ", restored at 30", Call.restore(0, 30));
        BOUNDS.due(branch, Call.lastChange(1, 30, 0), 30);
        BOUNDS.due(branch, Call.lastChange(1, 29, 0), 3);
        BOUNDS.due(branch, Call.lastChange(1, 1, 0), 1);
        BOUNDS.due(branch, Call.lastChange(1, 0, 0), 0);
    }

    private static void lastChangeAnotherValue() {
        BOUNDS.sentence("11", "at which key k got another value than at the point before");
        for (int before : Bounds.VALUES) {
            for (int after : Bounds.VALUES) {
                for (int k = 0; k <= 7; k++) {
                    Run run = Bounds.EMPTY.then(before + " to " + after, Call.set(k, before), Call.set(k, after));
                    int first = before == 0 ? 0 : 1;
                    BOUNDS.due(run, Call.lastChange(0, 1, k), first);
                    BOUNDS.due(run, Call.lastChange(0, 2, k), before == after ? first : 2);
                }
            }
        }
        Run same = Bounds.EMPTY.then("changes to the same", Call.set(3, 7), Call.set(3, 7), Call.add(3, 0),
            Call.exchange(3, 3), Call.set(5, 7), Call.exchange(3, 5), Call.set(4, 1));
        for (int n = 1; n <= 7; n++) {
            BOUNDS.due(same, Call.lastChange(0, n, 3), 1);
            BOUNDS.due(same, Call.lastChange(0, n, 5), n < 5 ? 0 : 5);
        }
        Run back = Bounds.EMPTY.then("away and back", Call.add(3, MIN), Call.add(3, MIN));
        BOUNDS.due(back, Call.get(3), 0);
        BOUNDS.due(back, Call.lastChange(0, 2, 3), 2);
    }

    private static void lastChangeNoneYet() {
        BOUNDS.sentence("11", "0 if there is none.");
        for (Run state : Bounds.STATES) {
            for (int t = 0; t <= state.model().timeline(); t++) {
                for (int k = 0; k <= 7; k++) {
                    BOUNDS.due(state, Call.lastChange(t, 0, k), 0);
                }
            }
        }
        Run others = Bounds.EMPTY;
        for (int p = 1; p <= 30; p++) {
            others = others.then("all keys but 0 and 7", Call.set(1 + p % 6, p));
        }
        BOUNDS.unseen(others, Call.lastChange(0, 30, 0), 0);
        BOUNDS.unseen(others, Call.lastChange(0, 30, 7), 0);
        Run branch = others.then("restored at its begin", Call.restore(0, 0));
        BOUNDS.unseen(branch, Call.lastChange(1, 0, 1 + 30 % 6), 0);
    }

    private static void lastChangeNoPoint() {
        BOUNDS.sentence("11", "NONE if there is no such timeline or point");
        for (Run state : Bounds.STATES) {
            Model model = state.model();
            for (int k = 0; k <= 7; k += 7) {
                for (int t : Bounds.NEVER_TIMELINES) {
                    BOUNDS.refused(state, Call.lastChange(t, 0, k), NONE);
                    BOUNDS.refused(state, Call.lastChange(t, t, k), NONE);
                }
                for (int t = model.timeline() + 1; t <= 6; t++) {
                    BOUNDS.refused(state, Call.lastChange(t, 0, k), NONE);
                }
                for (int t = 0; t <= model.timeline(); t++) {
                    BOUNDS.refused(state, Call.lastChange(t, model.lastPoint(t) + 1, k), NONE);
                }
                for (int n : Bounds.NEVER_POINTS) {
                    BOUNDS.refused(state, Call.lastChange(0, n, k), NONE);
                    BOUNDS.refused(state, Call.lastChange(model.timeline(), n, k), NONE);
                }
            }
        }
    }

    private static void lastChangeKeyTestedFirst() {
        BOUNDS.sentence("11", "BAD_ARG if k is not 0 to 7, tested first.");
        for (Run state : Bounds.STATES) {
            Model model = state.model();
            for (int k : Bounds.NOT_KEYS) {
                BOUNDS.refused(state, Call.lastChange(0, 0, k), BAD_ARG);
                BOUNDS.refused(state, Call.lastChange(model.timeline(), model.point(), k), BAD_ARG);
                BOUNDS.refused(state, Call.lastChange(model.timeline(), model.point() + 1, k), BAD_ARG);
                BOUNDS.refused(state, Call.lastChange(model.timeline() + 1, 0, k), BAD_ARG);
                BOUNDS.refused(state, Call.lastChange(0, -1, k), BAD_ARG);
                BOUNDS.refused(state, Call.lastChange(-1, 0, k), BAD_ARG);
                BOUNDS.refused(state, Call.lastChange(k, k, k), BAD_ARG);
            }
            BOUNDS.due(state, Call.lastChange(0, 0, 0), 0);
            BOUNDS.due(state, Call.lastChange(0, 0, 7), 0);
        }
    }

    private static void differsHowMany() {
        BOUNDS.sentence("12", "How many keys have different values at point n of timeline t and now");
        BOUNDS.unseen(Bounds.EMPTY, Call.differs(0, 0), 0);
        BOUNDS.unseen(Bounds.BUSY, Call.differs(0, 9), 0);
        BOUNDS.unseen(Bounds.BUSY, Call.differs(0, 8), 1);
        BOUNDS.unseen(Bounds.BUSY, Call.differs(0, 0), 8);
        for (int then : Bounds.VALUES) {
            for (int now : Bounds.VALUES) {
                for (int k = 0; k <= 7; k++) {
                    Run run = Bounds.EMPTY.then(then + ", now " + now, Call.set(k, then), Call.set(k, now));
                    BOUNDS.due(run, Call.differs(0, 1), then == now ? 0 : 1);
                }
            }
        }
        // The later timeline's keys have the other values, whichever of the two is asked about.
        Run apart = Bounds.BUSY.then("busy, restored at its begin", Call.restore(0, 0));
        BOUNDS.due(apart, Call.differs(0, 9), 8);
        BOUNDS.due(apart, Call.differs(0, 0), 0);
        BOUNDS.due(apart, Call.differs(1, 0), 0);
        BOUNDS.due(Bounds.FULL_TIMELINE, Call.differs(2, 30), 0);
        BOUNDS.due(Bounds.FULL_TIMELINE, Call.differs(2, 29), 1);
    }

    private static void differsNoPoint() {
        BOUNDS.sentence("12", "NONE if there is no such point");
        for (Run state : Bounds.STATES) {
            Model model = state.model();
            for (int t : Bounds.NEVER_TIMELINES) {
                BOUNDS.refused(state, Call.differs(t, 0), NONE);
                BOUNDS.refused(state, Call.differs(t, t), NONE);
            }
            for (int t = model.timeline() + 1; t <= 6; t++) {
                BOUNDS.refused(state, Call.differs(t, 0), NONE);
            }
            for (int t = 0; t <= model.timeline(); t++) {
                BOUNDS.refused(state, Call.differs(t, model.lastPoint(t) + 1), NONE);
                for (int n : Bounds.NEVER_POINTS) {
                    BOUNDS.refused(state, Call.differs(t, n), NONE);
                }
            }
        }
    }
}
