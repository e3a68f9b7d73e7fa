/** A store of eight values that keeps its whole history and can go on from any point of it. */
public final class PointInTime {
    public static final int BAD_ARG = -1;
    public static final int FULL = -2;
    public static final int NONE = -4;

    private static final int KEYS = 8;
    private static final int TIMELINES = 6;
    private static final int GREATEST_POINT = 30;
    private static final int POINTS = GREATEST_POINT + 1;
    private static final int CELLS = TIMELINES * POINTS * KEYS;

    // Every point of every timeline has its whole state here, so a restored
    // timeline owns its points and nothing needs to be replayed to read them.
    private final int[] values = new int[CELLS];
    private final int[] lastPoints = new int[TIMELINES];

    // The newest timeline is always the present one, so this also tells how
    // many timelines there are.
    private int present;

    public PointInTime() {
        present = 0;
    }

    public int set(int k, int v) {
        if (!isKey(k)) {
            return BAD_ARG;
        }
        if (presentIsFull()) {
            return FULL;
        }
        makePoint();
        values[cellNow(k)] = v;
        return lastPoints[present];
    }

    public int exchange(int k, int l) {
        if (!isKey(k) || !isKey(l)) {
            return BAD_ARG;
        }
        if (presentIsFull()) {
            return FULL;
        }
        makePoint();
        int cellOfK = cellNow(k);
        int cellOfL = cellNow(l);
        int kept = values[cellOfK];
        values[cellOfK] = values[cellOfL];
        values[cellOfL] = kept;
        return lastPoints[present];
    }

    public int add(int k, int d) {
        if (!isKey(k)) {
            return BAD_ARG;
        }
        if (presentIsFull()) {
            return FULL;
        }
        makePoint();
        values[cellNow(k)] += d;
        return lastPoints[present];
    }

    public int get(int k) {
        if (!isKey(k)) {
            return 0;
        }
        return values[cellNow(k)];
    }

    public int timeline() {
        return present;
    }

    public int point() {
        return lastPoints[present];
    }

    public int restore(int t, int n) {
        if (!isPoint(t, n)) {
            return NONE;
        }
        if (present == TIMELINES - 1) {
            return FULL;
        }
        present++;
        copyPoints(t, present, n);
        lastPoints[present] = n;
        return present;
    }

    public int valueAt(int t, int n, int k) {
        if (!isPoint(t, n) || !isKey(k)) {
            return 0;
        }
        return values[cell(t, n, k)];
    }

    public int lastPoint(int t) {
        if (!isTimeline(t)) {
            return NONE;
        }
        return lastPoints[t];
    }

    public int lastChange(int t, int n, int k) {
        if (!isKey(k)) {
            return BAD_ARG;
        }
        if (!isPoint(t, n)) {
            return NONE;
        }
        for (int p = n; p > 0; p--) {
            if (values[cell(t, p, k)] != values[cell(t, p - 1, k)]) {
                return p;
            }
        }
        return 0;
    }

    public int differs(int t, int n) {
        if (!isPoint(t, n)) {
            return NONE;
        }
        int count = 0;
        for (int k = 0; k < KEYS; k++) {
            if (values[cell(t, n, k)] != values[cellNow(k)]) {
                count++;
            }
        }
        return count;
    }

    // A state is in the history as soon as its point is made: a crash finds
    // nothing to lose, a flush no value that is only in memory, and a backup's
    // copies could be read by no call. So these three keep no state of their own.

    public int crash() {
        return 0;
    }

    public int backup(int many) {
        return isCount(many) ? 0 : BAD_ARG;
    }

    public int flush(int many) {
        return isCount(many) ? 0 : BAD_ARG;
    }

    public int digest() {
        int sum = 0;
        for (int k = 0; k < KEYS; k++) {
            sum += (k + 1) * values[cellNow(k)];
        }
        return sum;
    }

    private static boolean isKey(int k) {
        return k >= 0 && k < KEYS;
    }

    private static boolean isCount(int many) {
        return many >= 0 && many <= KEYS;
    }

    private boolean isTimeline(int t) {
        return t >= 0 && t <= present;
    }

    private boolean isPoint(int t, int n) {
        return isTimeline(t) && n >= 0 && n <= lastPoints[t];
    }

    private boolean presentIsFull() {
        return lastPoints[present] == GREATEST_POINT;
    }

    private static int cell(int t, int n, int k) {
        return (t * POINTS + n) * KEYS + k;
    }

    private int cellNow(int k) {
        return cell(present, lastPoints[present], k);
    }

    /** The new point begins with the state of the one before it; the change is then made in it. */
    private void makePoint() {
        int before = cellNow(0);
        lastPoints[present]++;
        int after = cellNow(0);
        for (int k = 0; k < KEYS; k++) {
            values[after + k] = values[before + k];
        }
    }

    private void copyPoints(int from, int to, int last) {
        int source = cell(from, 0, 0);
        int target = cell(to, 0, 0);
        int length = (last + 1) * KEYS;
        for (int i = 0; i < length; i++) {
            values[target + i] = values[source + i];
        }
    }
}
