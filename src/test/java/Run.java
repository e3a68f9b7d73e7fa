import java.util.ArrayList;
import java.util.List;

/**
 * Calls made one after another on a new object. An object answers 512 calls at most, so a
 * test that has more to ask makes the same object again, as often as it needs.
 */
final class Run {
    static final int MOST_CALLS = 512;

    private final String name;
    private final List<Call> calls;
    private List<Call> questions;
    private int[] answers;

    private Run(String name, List<Call> calls) {
        this.name = name;
        this.calls = calls;
    }

    static Run empty() {
        return new Run("new object", List.of());
    }

    Run then(String newName, List<Call> more) {
        List<Call> all = new ArrayList<>(calls);
        all.addAll(more);
        return new Run(newName, all);
    }

    Run then(String newName, Call... more) {
        return then(newName, List.of(more));
    }

    /** Goes on with changes until the present timeline has the point; every one alters a value. */
    Run upToPoint(int point) {
        Model model = model();
        List<Call> more = new ArrayList<>();
        for (int p = model.point() + 1; p <= point; p++) {
            more.add(Call.set(p % 8, 1000 * (model.timeline() + 1) + p));
        }
        return then(name + ", up to point " + point, more);
    }

    int length() {
        return calls.size();
    }

    PointInTime made() {
        PointInTime x = new PointInTime();
        for (Call call : calls) {
            call.on(x);
        }
        return x;
    }

    Model model() {
        Model model = new Model();
        for (Call call : calls) {
            call.on(model);
        }
        return model;
    }

    /** All that can be asked about what there is, and about what lies one step beside it. */
    List<Call> questions() {
        if (questions == null) {
            questions = everyQuestion(model());
        }
        return questions;
    }

    int[] dueAnswers() {
        if (answers == null) {
            Model model = model();
            answers = questions().stream().mapToInt(question -> question.on(model)).toArray();
        }
        return answers;
    }

    private static List<Call> everyQuestion(Model model) {
        List<Call> all = new ArrayList<>(List.of(Call.timeline(), Call.point(), Call.digest()));
        for (int k = -1; k <= 8; k++) {
            all.add(Call.get(k));
        }
        for (int t = -1; t <= model.timeline() + 1; t++) {
            all.add(Call.lastPoint(t));
            int last = Math.max(0, model.lastPoint(t));
            for (int n = -1; n <= last + 1; n++) {
                all.add(Call.differs(t, n));
                for (int k = 0; k < 8; k++) {
                    all.add(Call.valueAt(t, n, k));
                    all.add(Call.lastChange(t, n, k));
                }
            }
        }
        return all;
    }

    @Override
    public String toString() {
        return name;
    }
}
