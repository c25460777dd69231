// The boundary cases of collecting, sentence by sentence: the terms, and promise 8.
public final class CollectBoundaryTest {
    private static final int REFERENCE = Checks.REFERENCE;
    private static final State.Use NEW = x -> { };
    private static final State.Use RICH = State::rich;

    public static void main(String[] args) {
        anyNumberOfReferences();
        overEveryField();
        ringsAreNotReached();
        fromAPinnedOne();
        fromAPair();
        howMany();
        onlyThatSide();
        nothingElse();
        wrongSide();
        Checks.finish();
    }

    private static void unpin(Wire x, int... ids) {
        for (int id : ids) {
            x.pin(id, false);
        }
    }

    private static void anyNumberOfReferences() {
        Checks.sentence("COLLECTING a side takes away all its objects that can't be reached, over any number of references");
        for (int side = 0; side < 2; side++) {
            int first = 32 * side;
            for (int count = 0; count < 16; count++) {
                Wire x = new Wire();
                Nodes.define(x);
                Nodes.make(x, side, 16);
                for (int n = 0; n < 16; n++) {
                    x.link(first + n, n % 2 == 0 ? 0 : 9, n < count ? first + n + 1 : -1);
                    x.pin(first + n, n == 0);
                }
                Checks.is("over " + count, x.collect(side), 15 - count);
                for (int n = 0; n < 16; n++) {
                    Checks.is("reached over " + n + " of " + count, x.look(first + n), n == 0 ? 8 : n <= count ? 0 : -1);
                }
            }
        }
        backwards();
    }

    private static void backwards() {
        Wire x = new Wire();
        Nodes.define(x);
        Nodes.make(x, 0, 16);
        for (int n = 0; n < 15; n++) {
            x.link(n + 1, 9, n);
            x.pin(n, false);
        }
        Checks.is("from 15 down to 0", x.collect(0), 0);
        x.link(1, 9, -1);
        Checks.is("0 is not referred to", x.collect(0), 1);
        Checks.is("and gone", x.look(0), -1);
        x.link(15, 9, -1);
        Checks.is("14 others", x.collect(0), 14);
    }

    private static void overEveryField() {
        Checks.sentence("can't be reached, over any number of references");
        for (int name = 0; name < 10; name++) {
            Wire x = new Wire();
            for (int cls = 0; cls < 3; cls++) {
                x.define(0, cls, cls - 1, 0);
                for (int own = 4 * cls; own < 4 * cls + 4 && own < 10; own++) {
                    x.field(0, cls, own, REFERENCE);
                }
            }
            x.make(0, 2);
            x.make(0, 2);
            x.make(0, 0);
            Checks.yes("name " + name, x.link(0, name, 1));
            unpin(x, 1, 2);
            Checks.is("one is not reached", x.collect(0), 1);
            Checks.is("the other is", x.look(1), 2);
            x.link(0, name, -1);
            Checks.is("until it is null", x.collect(0), 1);
        }
    }

    private static void ringsAreNotReached() {
        Checks.sentence("all its objects that can't be reached .. from an object that is pinned or in a pair");
        Wire x = new Wire();
        Nodes.define(x);
        Nodes.make(x, 0, 6);
        x.link(0, 0, 0);
        x.link(1, 0, 2);
        x.link(2, 0, 1);
        x.link(3, 0, 4);
        x.link(4, 0, 5);
        x.link(4, 9, 3);
        x.link(2, 9, 5);
        unpin(x, 0, 1, 2, 3, 4);
        Checks.is("one that refers to itself, and rings that refer to a pinned one", x.collect(0), 5);
        Checks.is("which is there", x.look(5), 8);
        Nodes.make(x, 0, 2);
        x.link(5, 0, 0);
        x.link(0, 0, 1);
        x.link(1, 0, 0);
        unpin(x, 0, 1);
        Checks.is("a ring that is referred to", x.collect(0), 0);
    }

    private static void fromAPinnedOne() {
        Checks.sentence("from an object that is pinned");
        for (int side = 0; side < 2; side++) {
            for (int n : new int[] {0, 15}) {
                Wire x = new Wire();
                Nodes.define(x);
                Nodes.make(x, side, 16);
                for (int other = 0; other < 16; other++) {
                    x.pin(32 * side + other, other == n);
                }
                Checks.is("the others go", x.collect(side), 15);
                Checks.is("it stays", x.look(32 * side + n), 8);
                x.pin(32 * side + n, false);
                Checks.is("without the pin it goes", x.collect(side), 1);
                Checks.is("gone", x.look(32 * side + n), -1);
            }
        }
    }

    private static void fromAPair() {
        Checks.sentence("or in a pair of a session (either session, either place)");
        for (int side = 0; side < 2; side++) {
            int here = 32 * side;
            int there = 32 - here;
            Wire x = new Wire();
            Nodes.define(x);
            Nodes.make(x, side, 2);
            x.send(here, false);
            Nodes.make(x, 1 - side, 1);
            x.link(here, 0, here + 1);
            x.link(there, 0, there + 1);
            unpin(x, here, here + 1, there, there + 1);
            Checks.is("the first, and what it refers to", x.collect(side), 0);
            Checks.is("the second, and what it refers to", x.collect(1 - side), 0);
            x.link(here, 0, -1);
            x.link(there, 0, -1);
            Checks.is("the first alone", x.collect(side), 1);
            Checks.is("the second alone", x.collect(1 - side), 1);
            Checks.is("the first", x.look(here), 0);
            Checks.is("the second", x.look(there), 0);
            x.reset(1 - side);
            Checks.is("the other session is no matter", x.collect(side), 0);
            Checks.is("nor there", x.collect(1 - side), 0);
            x.reset(side);
            Checks.is("the first without the pair", x.collect(side), 1);
            Checks.is("the second without the pair", x.collect(1 - side), 1);
        }
        fullPairs();
        unsharedIsInNoPair();
    }

    private static void fullPairs() {
        Wire x = new Wire();
        Nodes.define(x);
        Nodes.make(x, 0, 16);
        for (int n = 0; n < 16; n++) {
            x.send(n, false);
            unpin(x, n, 32 + n);
        }
        Checks.is("16 firsts", x.collect(0), 0);
        Checks.is("16 seconds", x.collect(1), 0);
        x.reset(0);
        Checks.is("16 without pairs", x.collect(0), 16);
        Checks.is("16 on the other side", x.collect(1), 16);
    }

    private static void unsharedIsInNoPair() {
        Wire x = new Wire();
        Nodes.define(x);
        Nodes.make(x, 0, 1);
        x.send(0, true);
        unpin(x, 0, 32);
        Checks.is("x of an unshared sending", x.collect(0), 1);
        Checks.is("what arrived for it", x.collect(1), 1);
    }

    private static void howMany() {
        Checks.sentence("Collects a side and answers how many objects it took away");
        State.unchanged("no object, side 0", NEW, x -> x.collect(0), 0);
        State.unchanged("no object, side 1", NEW, x -> x.collect(1), 0);
        for (int side = 0; side < 2; side++) {
            for (int count = 0; count <= 16; count++) {
                Wire x = new Wire();
                Nodes.define(x);
                Nodes.make(x, side, 16);
                for (int n = 0; n < count; n++) {
                    x.pin(32 * side + n, false);
                }
                Checks.is("how many", x.collect(side), count);
                Checks.is("none the second time", x.collect(side), 0);
                Checks.is("a free number", x.make(side, 0), count == 0 ? GraphWire.FULL : 0);
            }
        }
    }

    private static void onlyThatSide() {
        Checks.sentence("COLLECTING a side takes away all its objects");
        Wire x = new Wire();
        State.rich(x);
        Checks.is("side 1", x.collect(1), 1);
        Checks.is("37 is gone", x.look(37), -1);
        Checks.is("9 is not", x.look(9), 0);
        Checks.is("side 0", x.collect(0), 1);
        Checks.is("now it is", x.look(9), -1);
    }

    private static void nothingElse() {
        Checks.sentence("Nothing is promised beyond the answers and state changes described above");
        State.Use collected = x -> {
            State.rich(x);
            x.collect(0);
            x.collect(1);
        };
        State.unchanged("side 0", collected, x -> x.collect(0), 0);
        State.unchanged("side 1", collected, x -> x.collect(1), 0);
        State.differs("one that takes something away", RICH, collected);
        Wire x = new Wire();
        collected.on(x);
        Checks.is("values stay", x.num(0, 5), 1L << 40);
        Checks.is("references stay", x.ref(0, 3), 2);
        Checks.is("pins stay", x.look(0), 10);
        Checks.is("pairs stay", x.sent(1), 35);
        Checks.is("the culprit stays", x.culprit(), 4);
    }

    private static void wrongSide() {
        Checks.sentence("collect: BAD if side is not 0 or 1");
        for (int side : Checks.outside(0, 1)) {
            State.unchanged("side " + side, RICH, x -> x.collect(side), GraphWire.BAD);
            State.unchanged("side " + side, NEW, x -> x.collect(side), GraphWire.BAD);
        }
    }
}
