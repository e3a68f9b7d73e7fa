import java.util.ArrayList;
import java.util.List;

/** What the tests of the document's sentences have in common: the edges, the states, and ways to check. */
final class Bounds {
    static final int MIN = Integer.MIN_VALUE;
    static final int MAX = Integer.MAX_VALUE;
    static final int BAD_ARG = -1;
    static final int FULL = -2;
    static final int NONE = -4;

    // Beside the nearest and the farthest: numbers that a place worked out from them,
    // or a narrower type, would wrap back into the range.
    static final int[] NOT_KEYS = {MIN, -(1 << 29), -8, -1, 8, 9, 256, 65536, 1 << 29, MAX};
    static final int[] NOT_COUNTS = {MIN, -(1 << 29), -8, -1, 9, 10, 256, 65536, 1 << 29, MAX};
    static final int[] NEVER_TIMELINES = {MIN, -(1 << 29), -6, -1, 6, 7, 256, 65536, 1 << 29, MAX};
    static final int[] NEVER_POINTS = {MIN, -(1 << 29), -31, -1, 31, 32, 256, 65536, 1 << 29, MAX};
    static final int[] VALUES = {MIN, MIN + 1, -1, 0, 1, MAX - 1, MAX};

    static final Run EMPTY = Run.empty();

    /** Every key has a value other than 0, the least and the greatest int among them. */
    static final Run BUSY = EMPTY.then("busy",
        Call.set(0, MIN), Call.set(7, MAX), Call.add(1, -1), Call.set(2, 22), Call.exchange(2, 3),
        Call.set(2, 2), Call.add(4, 44), Call.set(5, 55), Call.set(6, -66));

    /** What is due at each point of the busy state's timeline, written down by hand. */
    static final int[][] BUSY_STATES = {
        {0, 0, 0, 0, 0, 0, 0, 0},
        {MIN, 0, 0, 0, 0, 0, 0, 0},
        {MIN, 0, 0, 0, 0, 0, 0, MAX},
        {MIN, -1, 0, 0, 0, 0, 0, MAX},
        {MIN, -1, 22, 0, 0, 0, 0, MAX},
        {MIN, -1, 0, 22, 0, 0, 0, MAX},
        {MIN, -1, 2, 22, 0, 0, 0, MAX},
        {MIN, -1, 2, 22, 44, 0, 0, MAX},
        {MIN, -1, 2, 22, 44, 55, 0, MAX},
        {MIN, -1, 2, 22, 44, 55, -66, MAX}};

    /** Three timelines, of which the last two have left the first at points of their own. */
    static final Run BRANCHED = BUSY.then("branched",
        Call.restore(0, 8), Call.add(0, -1), Call.restore(1, 9), Call.set(6, 5), Call.exchange(0, 7));

    static final Run FULL_TIMELINE = BRANCHED.upToPoint(30);

    static final Run ALL_TIMELINES = BRANCHED.then("all timelines",
        Call.restore(0, 0), Call.restore(2, 11), Call.set(3, 9), Call.restore(1, 1));

    static final Run ALL_FULL = allFull();

    static final List<Run> STATES = List.of(EMPTY, BUSY, BRANCHED, FULL_TIMELINE, ALL_TIMELINES, ALL_FULL);

    // Made after a call that must have left no trace, to see that the object goes on as if without it.
    private static final List<Call> GOING_ON = List.of(
        Call.set(0, 4321), Call.exchange(1, 6), Call.add(7, -5), Call.point(), Call.timeline(), Call.digest(),
        Call.restore(0, 0), Call.timeline(), Call.point(), Call.set(3, 3), Call.differs(0, 0), Call.digest(),
        Call.restore(1, 1), Call.lastChange(1, 1, 3), Call.lastPoint(0), Call.lastPoint(2));

    private record Sentence(String section, String words, int madeBefore) { }

    private final Checks checks;
    private final List<Sentence> sentences = new ArrayList<>();

    Bounds(String test) {
        checks = new Checks(test);
    }

    private static Run allFull() {
        Run run = EMPTY.upToPoint(30);
        for (int t = 0; t < 5; t++) {
            run = run.then("", Call.restore(t, 6 * t)).upToPoint(30);
        }
        return run.then("six full timelines");
    }

    /** From here on the checks are those of these words of the document. */
    void sentence(String section, String words) {
        sentences.add(new Sentence(section, words, checks.madeSoFar()));
        checks.part(section + ": " + words);
    }

    void everySentenceHadChecks(Document document) {
        int madeAfter = checks.madeSoFar();
        checks.part("the document's sentences");
        for (int i = sentences.size() - 1; i >= 0; i--) {
            Sentence sentence = sentences.get(i);
            holds("checked: " + sentence, sentence.madeBefore() < madeAfter);
            holds("words of the document: " + sentence, document.quote(sentence.section(), sentence.words()));
            madeAfter = sentence.madeBefore();
        }
        for (String words : document.notQuoted()) {
            holds("a test has: " + words, false);
        }
    }

    void end() {
        checks.end();
    }

    void due(String call, int got, int want) {
        checks.due(call, got, want);
    }

    void holds(String what, boolean held) {
        checks.holds(what, held);
    }

    void valuesNow(String after, PointInTime x, int[] want) {
        for (int k = 0; k <= 7; k++) {
            due(after + ", then get(" + k + ")", x.get(k), want[k]);
        }
    }

    void valuesAt(String after, PointInTime x, int t, int n, int[] want) {
        for (int k = 0; k <= 7; k++) {
            due(after + ", then valueAt(" + t + ", " + n + ", " + k + ")", x.valueAt(t, n, k), want[k]);
        }
    }

    void due(Run before, Call call, int want) {
        checks.due(before + ": " + call.text(), call.on(before.made()), want);
    }

    /** Makes the calls on one new object, the answers being those of the row after each. */
    void dueInTurn(Run before, Call[] calls, int[] wants) {
        holds(before + ": a want for each call", calls.length == wants.length);
        PointInTime x = before.made();
        for (int i = 0; i < calls.length; i++) {
            checks.due(before + ", then " + calls[i].text(), calls[i].on(x), wants[i]);
        }
    }

    void refused(Run before, Call call, int code) {
        unseen(before, call, code);
    }

    /** The call answers so, and then every call answers as if it had not been made. */
    void unseen(Run before, Call call, int want) {
        List<Call> questions = before.questions();
        int room = Run.MOST_CALLS - before.length() - 1;
        for (int from = 0; from < questions.size(); from += room) {
            PointInTime x = before.made();
            checks.due(before + ": " + call.text(), call.on(x), want);
            int to = Math.min(from + room, questions.size());
            if (!sameAnswers(before, call, x, from, to)) {
                return;
            }
        }
        goesOnAlike(before, call);
    }

    private boolean sameAnswers(Run before, Call call, PointInTime x, int from, int to) {
        int wrongBefore = checks.wrongSoFar();
        for (int i = from; i < to && checks.wrongSoFar() == wrongBefore; i++) {
            Call question = before.questions().get(i);
            checks.due(before + ": " + call.text() + ", then " + question.text(),
                question.on(x), before.dueAnswers()[i]);
        }
        return checks.wrongSoFar() == wrongBefore;
    }

    private void goesOnAlike(Run before, Call call) {
        PointInTime x = before.made();
        Model model = before.model();
        call.on(x);
        int wrongBefore = checks.wrongSoFar();
        for (Call next : GOING_ON) {
            checks.due(before + ": " + call.text() + ", going on with " + next.text(), next.on(x), next.on(model));
            if (checks.wrongSoFar() != wrongBefore) {
                return;
            }
        }
    }
}
