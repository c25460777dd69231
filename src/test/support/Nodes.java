/** The plainest objects that can refer to each other: one class, the same on both sides. */
final class Nodes {
    private Nodes() {
    }

    /** Class 0 on both sides, with the references 0 and 9 and the int 5. */
    static void define(Wire x) {
        for (int side = 0; side < 2; side++) {
            x.define(side, 0, -1, 0);
            x.field(side, 0, 0, Checks.REFERENCE);
            x.field(side, 0, 9, Checks.REFERENCE);
            x.field(side, 0, 5, Checks.INT);
        }
    }

    static void make(Wire x, int side, int count) {
        for (int i = 0; i < count; i++) {
            x.make(side, 0);
        }
    }

    /** Each refers to the next over the name 9, the last to the first. */
    static void ring(Wire x, int side, int count) {
        make(x, side, count);
        for (int n = 0; n < count; n++) {
            x.link(32 * side + n, 9, 32 * side + (n + 1) % count);
        }
    }
}
