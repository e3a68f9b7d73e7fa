/** Promises 13 to 15, sentence by sentence: crash, backup and flush. */
final class ArchiveBounds {
    private static final int BAD_ARG = Bounds.BAD_ARG;

    private static final Bounds BOUNDS = DocumentTest.BOUNDS;

    static void all() {
        crashAnswers0();
        backupBegins();
        backupCopiesMore();
        backupIsFinished();
        backupBadArg();
        flushSoMany();
        flushBadArg();
    }

    private static void crashAnswers0() {
        BOUNDS.sentence("13", "The power fails and comes back: answers 0.");
        for (Run state : Bounds.STATES) {
            BOUNDS.unseen(state, Call.crash(), 0);
            Run again = state.then(state + ", crashed", Call.crash());
            BOUNDS.unseen(again, Call.crash(), 0);
            Run partly = state.then(state + ", partly copied and written",
                Call.backup(8), Call.backup(7), Call.flush(1));
            BOUNDS.unseen(partly, Call.crash(), 0);
        }
        Run gone = Bounds.BUSY.then("crashed", Call.crash());
        BOUNDS.due(gone, Call.point(), 9);
        BOUNDS.due(gone, Call.get(0), Bounds.MIN);
        BOUNDS.due(gone, Call.get(7), Bounds.MAX);
        BOUNDS.due(gone, Call.set(0, 1), 10);
    }

    private static void backupBegins() {
        BOUNDS.sentence("14", "A backup: begins one, if none is under way");
        for (Run state : Bounds.STATES) {
            for (int many = 0; many <= 8; many++) {
                BOUNDS.unseen(state, Call.backup(many), 0);
            }
        }
    }

    private static void backupCopiesMore() {
        BOUNDS.sentence("14", "else copies so many more keys (0 to 8)");
        for (Run state : Bounds.STATES) {
            Run begun = state.then(state + ", a backup begun", Call.backup(8));
            for (int many = 0; many <= 8; many++) {
                BOUNDS.unseen(begun, Call.backup(many), 0);
                Run partly = begun.then(state + ", a backup under way", Call.backup(many));
                BOUNDS.unseen(partly, Call.backup(0), 0);
                BOUNDS.unseen(partly, Call.backup(8), 0);
            }
        }
    }

    private static void backupIsFinished() {
        BOUNDS.sentence("14", "when all are copied it is finished");
        for (int many = 1; many <= 8; many++) {
            PointInTime x = new PointInTime();
            for (int turn = 0; turn < 50; turn++) {
                BOUNDS.due("backup(" + many + "), call " + turn, x.backup(many), 0);
                BOUNDS.due("a change between", x.add(turn % 8, 1), turn < 30 ? turn + 1 : Bounds.FULL);
            }
        }
        Run finished = Bounds.BUSY.then("busy, backed up", Call.backup(0), Call.backup(8));
        for (int many = 0; many <= 8; many++) {
            BOUNDS.unseen(finished, Call.backup(many), 0);
        }
        BOUNDS.due(finished, Call.restore(0, 9), 1);
        BOUNDS.due(finished, Call.restore(0, 10), Bounds.NONE);
    }

    private static void backupBadArg() {
        BOUNDS.sentence("14", "Answers 0, or BAD_ARG if many is not 0 to 8.");
        for (Run state : Bounds.STATES) {
            Run begun = state.then(state + ", a backup begun", Call.backup(0));
            Run partly = begun.then(state + ", a backup under way", Call.backup(7));
            Run finished = partly.then(state + ", a backup finished", Call.backup(1));
            for (Run run : new Run[] {state, begun, partly, finished}) {
                BOUNDS.unseen(run, Call.backup(0), 0);
                BOUNDS.unseen(run, Call.backup(8), 0);
                for (int many : Bounds.NOT_COUNTS) {
                    BOUNDS.refused(run, Call.backup(many), BAD_ARG);
                }
            }
        }
    }

    private static void flushSoMany() {
        BOUNDS.sentence("15", "Writes so many of the keys' values that are only in memory to the disk");
        for (Run state : Bounds.STATES) {
            Run written = state.then(state + ", all written", Call.flush(8));
            for (int many = 0; many <= 8; many++) {
                BOUNDS.unseen(state, Call.flush(many), 0);
                BOUNDS.unseen(written, Call.flush(many), 0);
                Run partly = state.then(state + ", " + many + " written", Call.flush(many));
                BOUNDS.unseen(partly, Call.crash(), 0);
            }
        }
        // Values written on one timeline are not those of the one restored after it.
        Run elsewhere = Bounds.BUSY.then("written, restored, crashed",
            Call.flush(8), Call.restore(0, 1), Call.flush(0), Call.crash());
        BOUNDS.due(elsewhere, Call.get(0), Bounds.MIN);
        BOUNDS.due(elsewhere, Call.get(7), 0);
    }

    private static void flushBadArg() {
        BOUNDS.sentence("15", "BAD_ARG if many is not 0 to 8, else 0");
        for (Run state : Bounds.STATES) {
            Run written = state.then(state + ", all written", Call.flush(8));
            for (Run run : new Run[] {state, written}) {
                BOUNDS.unseen(run, Call.flush(0), 0);
                BOUNDS.unseen(run, Call.flush(8), 0);
                for (int many : Bounds.NOT_COUNTS) {
                    BOUNDS.refused(run, Call.flush(many), BAD_ARG);
                }
            }
        }
    }
}
