/** A GraphWire that is used no longer than the document promises something about it. */
final class Wire {
    static final int MOST_CALLS = 512;

    private final GraphWire wire = new GraphWire();
    private int calls = 0;

    private GraphWire next() {
        calls++;
        if (calls > MOST_CALLS) {
            throw new IllegalStateException("a test makes more than " + MOST_CALLS + " calls on one object");
        }
        return wire;
    }

    int calls() {
        return calls;
    }

    boolean define(int side, int cls, int parent, int version) {
        return next().define(side, cls, parent, version);
    }

    boolean field(int side, int cls, int name, int kind) {
        return next().field(side, cls, name, kind);
    }

    int make(int side, int cls) {
        return next().make(side, cls);
    }

    boolean set(int id, int name, long v) {
        return next().set(id, name, v);
    }

    boolean link(int id, int name, int target) {
        return next().link(id, name, target);
    }

    boolean pin(int id, boolean on) {
        return next().pin(id, on);
    }

    int collect(int side) {
        return next().collect(side);
    }

    int send(int id, boolean unshared) {
        return next().send(id, unshared);
    }

    boolean reset(int side) {
        return next().reset(side);
    }

    long num(int id, int name) {
        return next().num(id, name);
    }

    int ref(int id, int name) {
        return next().ref(id, name);
    }

    int look(int id) {
        return next().look(id);
    }

    int sent(int id) {
        return next().sent(id);
    }

    int culprit() {
        return next().culprit();
    }

    boolean alike(int a, int b) {
        return next().alike(a, b);
    }
}
