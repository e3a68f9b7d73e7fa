import java.util.function.ToIntFunction;

/** One call with its arguments: told in words, and made on the program or on the model. */
record Call(String text, ToIntFunction<PointInTime> program, ToIntFunction<Model> model) {
    static Call set(int k, int v) {
        return new Call("set(" + k + ", " + v + ")", x -> x.set(k, v), m -> m.set(k, v));
    }

    static Call exchange(int k, int l) {
        return new Call("exchange(" + k + ", " + l + ")", x -> x.exchange(k, l), m -> m.exchange(k, l));
    }

    static Call add(int k, int d) {
        return new Call("add(" + k + ", " + d + ")", x -> x.add(k, d), m -> m.add(k, d));
    }

    static Call get(int k) {
        return new Call("get(" + k + ")", x -> x.get(k), m -> m.get(k));
    }

    static Call timeline() {
        return new Call("timeline()", PointInTime::timeline, Model::timeline);
    }

    static Call point() {
        return new Call("point()", PointInTime::point, Model::point);
    }

    static Call restore(int t, int n) {
        return new Call("restore(" + t + ", " + n + ")", x -> x.restore(t, n), m -> m.restore(t, n));
    }

    static Call valueAt(int t, int n, int k) {
        return new Call("valueAt(" + t + ", " + n + ", " + k + ")",
            x -> x.valueAt(t, n, k), m -> m.valueAt(t, n, k));
    }

    static Call lastPoint(int t) {
        return new Call("lastPoint(" + t + ")", x -> x.lastPoint(t), m -> m.lastPoint(t));
    }

    static Call lastChange(int t, int n, int k) {
        return new Call("lastChange(" + t + ", " + n + ", " + k + ")",
            x -> x.lastChange(t, n, k), m -> m.lastChange(t, n, k));
    }

    static Call differs(int t, int n) {
        return new Call("differs(" + t + ", " + n + ")", x -> x.differs(t, n), m -> m.differs(t, n));
    }

    static Call crash() {
        return new Call("crash()", PointInTime::crash, Model::crash);
    }

    static Call backup(int many) {
        return new Call("backup(" + many + ")", x -> x.backup(many), m -> m.backup(many));
    }

    static Call flush(int many) {
        return new Call("flush(" + many + ")", x -> x.flush(many), m -> m.flush(many));
    }

    static Call digest() {
        return new Call("digest()", PointInTime::digest, Model::digest);
    }

    int on(PointInTime x) {
        return program.applyAsInt(x);
    }

    int on(Model m) {
        return model.applyAsInt(m);
    }
}
