// The boundary cases of alike, sentence by sentence: the terms, and promise 16.
public final class AlikeBoundaryTest {
    private static final int BYTE = Checks.BYTE;
    private static final int INT = Checks.INT;
    private static final int LONG = Checks.LONG;
    private static final int REFERENCE = Checks.REFERENCE;
    private static final State.Use NEW = x -> { };
    private static final State.Use RICH = State::rich;

    public static void main(String[] args) {
        sameName();
        classesOfBothChains();
        fieldsOfBoth();
        numbersEqual();
        bothNull();
        numberAndReference();
        relatedTargets();
        someRelation();
        everyPair();
        noSuchObjects();
        nothingChanges();
        Checks.finish();
    }

    private static void both(String what, Wire x, int a, int b, boolean due) {
        Checks.is(what, x.alike(a, b) ? 1 : 0, due ? 1 : 0);
        Checks.is(what + ", the other way round", x.alike(b, a) ? 1 : 0, due ? 1 : 0);
    }

    private static void sameName() {
        Checks.sentence("if a and b are related their classes have the same name");
        Wire x = new Wire();
        for (int cls = 0; cls < 6; cls++) {
            x.define(0, cls, -1, 0);
            x.define(1, cls, -1, 1);
            x.make(0, cls);
            x.make(1, cls);
        }
        for (int a = 0; a < 6; a++) {
            for (int b = 0; b < 6; b++) {
                Checks.is("classes " + a + " and " + b, x.alike(a, 32 + b) ? 1 : 0, a == b ? 1 : 0);
                Checks.is("of one side", x.alike(32 + a, 32 + b) ? 1 : 0, a == b ? 1 : 0);
            }
        }
        Wire chain = new Wire();
        chain.define(0, 0, -1, 0);
        chain.define(0, 1, 0, 0);
        chain.make(0, 0);
        chain.make(0, 1);
        both("a class and its parent", chain, 0, 1, false);
        both("an object and itself", chain, 1, 1, true);
    }

    private static void classesOfBothChains() {
        Checks.sentence("for every class, by name, that is in the chains of both classes");
        Wire x = new Wire();
        for (int cls = 0; cls < 3; cls++) {
            x.define(0, cls, cls - 1, 0);
            x.field(0, cls, cls, INT);
            x.define(1, 2 - cls, cls == 0 ? -1 : 3 - cls, 0);
            x.field(1, 2 - cls, 2 - cls, INT);
        }
        for (int cls = 0; cls < 3; cls++) {
            x.make(0, cls);
            x.make(1, cls);
        }
        x.set(1, 0, 5);
        both("0 is in the chain of 1 on side 0 alone", x, 1, 33, true);
        x.set(33, 2, 5);
        both("2 is in the chain of 1 on side 1 alone", x, 1, 33, true);
        x.set(33, 1, 5);
        both("1 is in both", x, 1, 33, false);
        Wire y = new Wire();
        for (int cls = 0; cls < 3; cls++) {
            y.define(0, cls, cls - 1, 0);
            y.field(0, cls, cls, INT);
        }
        y.make(0, 2);
        y.make(0, 2);
        for (int name = 0; name < 3; name++) {
            both("all three classes of the chain", y, 0, 1, true);
            y.set(0, name, 1);
            both("class " + name + " of the chain", y, 0, 1, false);
            y.set(1, name, 1);
        }
        both("all three again", y, 0, 1, true);
    }

    private static void fieldsOfBoth() {
        Checks.sentence("every field, by name, that both of these classes have of their own");
        for (int name = 0; name < 10; name++) {
            Wire x = new Wire();
            x.define(0, 0, -1, 0);
            x.define(1, 0, -1, 0);
            x.field(0, 0, name, INT);
            x.field(1, 0, name, INT);
            x.make(0, 0);
            x.make(1, 0);
            both("name " + name, x, 0, 32, true);
            x.set(0, name, 1);
            both("name " + name + " differs", x, 0, 32, false);
        }
        Wire x = new Wire();
        x.define(0, 0, -1, 0);
        x.field(0, 0, 0, INT);
        x.field(0, 0, 1, REFERENCE);
        x.define(0, 1, 0, 0);
        x.define(1, 0, -1, 0);
        x.field(1, 0, 2, INT);
        x.define(1, 1, 0, 0);
        x.field(1, 1, 0, INT);
        x.make(0, 1);
        x.make(1, 1);
        x.set(0, 0, 1);
        x.link(0, 1, 0);
        x.set(32, 2, 2);
        both("fields of one side alone, and a name in different classes", x, 0, 32, true);
        Wire none = new Wire();
        none.define(0, 3, -1, 0);
        none.define(1, 3, -1, 9);
        none.make(0, 3);
        none.make(1, 3);
        both("no fields at all", none, 0, 32, true);
    }

    private static void numbersEqual() {
        Checks.sentence("both are numbers and equal");
        long[] values = {0, 1, -1, 127, 128, -128, 255, 256, 32767, 32768, 65535, Integer.MAX_VALUE, Integer.MIN_VALUE, 1L << 31, 1L << 32,
            Long.MAX_VALUE, Long.MIN_VALUE};
        Wire x = new Wire();
        x.define(0, 0, -1, 0);
        x.field(0, 0, 0, LONG);
        x.make(0, 0);
        x.make(0, 0);
        x.define(1, 0, -1, 0);
        x.field(1, 0, 0, BYTE);
        x.make(1, 0);
        for (long v : values) {
            x.set(0, 0, v);
            x.set(1, 0, v);
            both("equal " + v, x, 0, 1, true);
            x.set(1, 0, v + 1);
            both("one more than " + v, x, 0, 1, false);
            x.set(1, 0, v ^ Long.MIN_VALUE);
            both("the uppermost bit of " + v, x, 0, 1, false);
            x.set(1, 0, v ^ 1L << 32);
            both("a bit above an int of " + v, x, 0, 1, false);
            x.set(32, 0, v);
            both("a byte of " + v, x, 0, 32, v >= -128 && v <= 127);
        }
    }

    private static void bothNull() {
        Checks.sentence("or both are null references");
        for (int name : new int[] {0, 9}) {
            Wire x = new Wire();
            Nodes.define(x);
            Nodes.make(x, 0, 2);
            Nodes.make(x, 1, 1);
            both("null and null", x, 0, 32, true);
            x.link(0, name, 0);
            both("itself and null", x, 0, 32, false);
            both("itself and null on one side", x, 0, 1, false);
            x.link(0, name, 1);
            both("another and null", x, 0, 1, false);
            x.link(0, name, -1);
            both("null again", x, 0, 1, true);
        }
    }

    private static void numberAndReference() {
        Checks.sentence("both are numbers and equal, or both are null references, or both are references");
        for (int kind = BYTE; kind <= LONG; kind++) {
            Wire x = new Wire();
            x.define(0, 0, -1, 0);
            x.field(0, 0, 4, kind);
            x.define(1, 0, -1, 0);
            x.field(1, 0, 4, REFERENCE);
            x.make(0, 0);
            x.make(1, 0);
            both("0 and null", x, 0, 32, false);
            x.set(0, 4, -1);
            both("-1 and null", x, 0, 32, false);
            x.link(32, 4, 32);
            x.set(0, 4, 32);
            both("32 and a reference to 32", x, 0, 32, false);
            x.set(0, 4, 0);
            both("0 and a reference", x, 0, 32, false);
        }
    }

    private static void relatedTargets() {
        Checks.sentence("or both are references to objects that are related");
        for (int depth = 1; depth < 16; depth++) {
            Wire x = new Wire();
            Nodes.define(x);
            x.define(0, 1, -1, 0);
            Nodes.make(x, 0, 16);
            Nodes.make(x, 1, 16);
            for (int n = 0; n < depth; n++) {
                x.link(n, 9, n + 1);
                x.link(32 + n, 9, 33 + n);
            }
            both("rows of " + depth, x, 0, 32, true);
            x.set(depth, 5, 1);
            both("a number after " + depth, x, 0, 32, false);
            x.set(32 + depth, 5, 1);
            both("the same number", x, 0, 32, true);
            x.link(depth, 0, 0);
            both("a reference after " + depth, x, 0, 32, false);
            x.link(32 + depth, 0, 32);
            both("back to the first", x, 0, 32, true);
        }
        Wire x = new Wire();
        Nodes.define(x);
        x.define(0, 1, -1, 0);
        Nodes.make(x, 0, 2);
        x.make(0, 1);
        x.make(0, 0);
        x.link(0, 9, 2);
        x.link(1, 9, 3);
        both("references to other classes", x, 0, 1, false);
    }

    private static void someRelation() {
        Checks.sentence("Two objects are ALIKE if they stand in some relation for which holds");
        for (int left = 1; left <= 16; left++) {
            Wire x = new Wire();
            Nodes.define(x);
            Nodes.make(x, 0, left);
            Nodes.make(x, 1, 15);
            for (int n = 0; n < left; n++) {
                x.link(n, 9, (n + 1) % left);
            }
            for (int n = 0; n < 15; n++) {
                x.link(32 + n, 9, 32 + (n + 1) % 15);
            }
            both("rings of " + left + " and 15", x, 0, 32, true);
            both("turned", x, left - 1, 39, true);
            x.set(46, 5, 1);
            both("one of 15 with a mark", x, 0, 32, false);
            x.set(left - 1, 5, 1);
            both("the last of each with a mark", x, 0, 32, left == 15);
        }
        Wire x = new Wire();
        Nodes.define(x);
        Nodes.make(x, 0, 4);
        x.link(0, 0, 1);
        x.link(0, 9, 1);
        x.link(2, 0, 1);
        x.link(2, 9, 3);
        both("one object twice and two that are alike", x, 0, 2, true);
        x.set(3, 5, 1);
        both("and two that are not", x, 0, 2, false);
    }

    /** The first field goes on at the left alone, the second at the right, so that all 256 pairs come to be related. */
    private static void allPairs(Wire x) {
        Nodes.define(x);
        Nodes.make(x, 0, 16);
        Nodes.make(x, 1, 16);
        for (int n = 0; n < 16; n++) {
            x.link(n, 0, (n + 1) % 16);
            x.link(n, 9, n);
            x.link(32 + n, 0, 32 + n);
            x.link(32 + n, 9, 32 + (n + 1) % 16);
        }
    }

    private static void everyPair() {
        Checks.sentence("some relation for which holds");
        Wire x = new Wire();
        allPairs(x);
        both("all 256 pairs", x, 0, 32, true);
        both("from the last", x, 15, 47, true);
        for (int n = 0; n < 16; n++) {
            x.set(n, 5, 1);
            both("a mark on " + n, x, 0, 32, false);
            x.set(n, 5, 0);
            x.set(32 + n, 5, 1);
            both("a mark on " + (32 + n), x, 0, 32, false);
            x.set(32 + n, 5, 0);
        }
        both("no mark", x, 0, 32, true);
        askedBefore();
    }

    /** What an earlier call came to look at, and found not alike, is no matter to the next one. */
    private static void askedBefore() {
        for (int depth = 1; depth < 15; depth++) {
            Wire x = new Wire();
            Nodes.define(x);
            Nodes.make(x, 0, 16);
            Nodes.make(x, 1, 16);
            for (int n = 0; n < depth; n++) {
                x.link(n, 9, n + 1);
                x.link(32 + n, 9, 33 + n);
            }
            x.set(depth, 5, 1);
            both("not alike after " + depth, x, 0, 32, false);
            both("asked for two others then", x, 15, 47, true);
        }
        Wire x = new Wire();
        allPairs(x);
        x.set(15, 5, 1);
        both("not alike after many", x, 0, 32, false);
        both("an object and itself then", x, 0, 0, true);
    }

    private static void noSuchObjects() {
        Checks.sentence("Whether there are such objects and they are alike.");
        for (int id : State.noObjectsOfRich()) {
            State.refused("no first " + id, RICH, x -> x.alike(id, 0));
            State.refused("no second " + id, RICH, x -> x.alike(32, id));
            State.refused("neither " + id, RICH, x -> x.alike(id, id));
        }
        State.refused("none at all", NEW, x -> x.alike(0, 0));
        Wire x = new Wire();
        Nodes.define(x);
        Nodes.make(x, 0, 16);
        Nodes.make(x, 1, 16);
        for (int id : new int[] {0, 15, 32, 47}) {
            both("there is " + id, x, id, 0, true);
            both("and itself", x, id, id, true);
        }
        for (int id : new int[] {-1, 16, 31, 48}) {
            both("there is no " + id, x, id, 0, false);
        }
        x.pin(15, false);
        both("not pinned", x, 15, 0, true);
        x.collect(0);
        both("gone", x, 15, 0, false);
        both("gone, and itself", x, 15, 15, false);
    }

    private static void nothingChanges() {
        Checks.sentence("Nothing is promised beyond the answers and state changes described above");
        State.unchanged("alike", RICH, x -> x.alike(0, 34) ? 1 : 0, 1);
        State.refused("not alike", RICH, x -> x.alike(0, 3));
        State.refused("of other classes", RICH, x -> x.alike(0, 4));
    }
}
