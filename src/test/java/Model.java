import java.util.ArrayList;
import java.util.List;

/**
 * The document told once more, another way: a timeline is a list of steps, and a state is
 * what comes of doing them anew from the begin. Each step is {key, value} or two such pairs.
 */
final class Model {
    private final List<List<int[]>> timelines = new ArrayList<>();

    Model() {
        timelines.add(new ArrayList<>());
    }

    private List<int[]> presentSteps() {
        return timelines.get(timelines.size() - 1);
    }

    private boolean hasPoint(int t, int n) {
        return 0 <= t && t < timelines.size() && 0 <= n && n <= timelines.get(t).size();
    }

    private static boolean hasKey(int k) {
        return 0 <= k && k <= 7;
    }

    private int[] stateAt(int t, int n) {
        int[] state = new int[8];
        for (int[] step : timelines.get(t).subList(0, n)) {
            for (int i = 0; i < step.length; i += 2) {
                state[step[i]] = step[i + 1];
            }
        }
        return state;
    }

    private int[] stateNow() {
        return stateAt(timeline(), point());
    }

    private int change(int... step) {
        if (point() >= 30) {
            return -2;
        }
        presentSteps().add(step);
        return point();
    }

    int set(int k, int v) {
        return hasKey(k) ? change(k, v) : -1;
    }

    int exchange(int k, int l) {
        return hasKey(k) && hasKey(l) ? change(k, get(l), l, get(k)) : -1;
    }

    int add(int k, int d) {
        return hasKey(k) ? change(k, get(k) + d) : -1;
    }

    int get(int k) {
        return hasKey(k) ? stateNow()[k] : 0;
    }

    int timeline() {
        return timelines.size() - 1;
    }

    int point() {
        return presentSteps().size();
    }

    int restore(int t, int n) {
        if (!hasPoint(t, n)) {
            return -4;
        }
        if (timelines.size() == 6) {
            return -2;
        }
        timelines.add(new ArrayList<>(timelines.get(t).subList(0, n)));
        return timeline();
    }

    int valueAt(int t, int n, int k) {
        return hasPoint(t, n) && hasKey(k) ? stateAt(t, n)[k] : 0;
    }

    int lastPoint(int t) {
        return hasPoint(t, 0) ? timelines.get(t).size() : -4;
    }

    int lastChange(int t, int n, int k) {
        if (!hasKey(k)) {
            return -1;
        }
        if (!hasPoint(t, n)) {
            return -4;
        }
        int last = 0;
        for (int p = 1; p <= n; p++) {
            if (stateAt(t, p)[k] != stateAt(t, p - 1)[k]) {
                last = p;
            }
        }
        return last;
    }

    int differs(int t, int n) {
        if (!hasPoint(t, n)) {
            return -4;
        }
        int[] then = stateAt(t, n);
        int[] now = stateNow();
        int count = 0;
        for (int k = 0; k < 8; k++) {
            count += then[k] == now[k] ? 0 : 1;
        }
        return count;
    }

    int crash() {
        return 0;
    }

    int backup(int many) {
        return 0 <= many && many <= 8 ? 0 : -1;
    }

    int flush(int many) {
        return 0 <= many && many <= 8 ? 0 : -1;
    }

    int digest() {
        long sum = 0;
        int[] now = stateNow();
        for (int k = 0; k < 8; k++) {
            sum += (k + 1L) * now[k];
        }
        return (int) sum;
    }
}
