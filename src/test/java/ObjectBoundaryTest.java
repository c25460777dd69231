// The boundary cases of objects, sentence by sentence: the terms, and the promises 4 to 7, 11 to 13 and 17.
public final class ObjectBoundaryTest {
    private static final int BYTE = Checks.BYTE;
    private static final int SHORT = Checks.SHORT;
    private static final int LONG = Checks.LONG;
    private static final int REFERENCE = Checks.REFERENCE;
    private static final State.Use NEW = x -> { };
    private static final State.Use RICH = State::rich;
    private static final int[] NO_OBJECTS = State.noObjectsOfRich();

    public static void main(String[] args) {
        numbersOfASide();
        idOfAnObject();
        leastNumber();
        classForGood();
        firstValues();
        referencesOfASide();
        makesPinned();
        makeBad();
        makeFull();
        lowestBits();
        setNoObject();
        setNoField();
        linkTarget();
        linkNoObject();
        linkNoField();
        linkWrongTarget();
        pinOnAndOff();
        pinNoObject();
        numValue();
        numNone();
        refValue();
        refNone();
        lookValue();
        lookNone();
        badBeforeFull();
        Checks.finish();
    }

    // ---- Terms ----

    private static void numbersOfASide() {
        Checks.sentence("OBJECTS of a side have numbers 0 to 15 (16 at most)");
        for (int side = 0; side < 2; side++) {
            Wire x = new Wire();
            Nodes.define(x);
            for (int n = 0; n < 16; n++) {
                Checks.is("none yet", x.look(32 * side + n), -1);
                Checks.is("number", x.make(side, 0), n);
                Checks.is("there", x.look(32 * side + n), 8);
            }
            Checks.is("no seventeenth", x.make(side, 0), GraphWire.FULL);
            Checks.is("none with number 16", x.look(32 * side + 16), -1);
            Checks.is("none with number -1", x.look(32 * side - 1), -1);
        }
    }

    private static void idOfAnObject() {
        Checks.sentence("the ID of object n of side s is 32 * s + n");
        Wire x = new Wire();
        Nodes.define(x);
        Nodes.make(x, 0, 16);
        Nodes.make(x, 1, 16);
        for (int n = 0; n < 16; n++) {
            x.set(n, 5, 100 + n);
            x.set(32 + n, 5, 200 + n);
        }
        for (int n = 0; n < 16; n++) {
            Checks.is("side 0", x.num(n, 5), 100 + n);
            Checks.is("side 1", x.num(32 + n, 5), 200 + n);
        }
        for (int id = -16; id < 80; id++) {
            boolean there = id >= 0 && id < 16 || id >= 32 && id < 48;
            Checks.is("ID " + id, x.look(id), there ? 8 : -1);
        }
    }

    private static void leastNumber() {
        Checks.sentence("A new object gets the least number that is free on its side.");
        for (int side = 0; side < 2; side++) {
            for (int n = 0; n < 16; n++) {
                Wire x = new Wire();
                Nodes.define(x);
                Nodes.make(x, side, 16);
                x.pin(32 * side + n, false);
                x.pin(32 * side + 15, false);
                x.collect(side);
                Checks.is("the lesser of " + n + " and 15", x.make(side, 0), n);
                Checks.is("then 15", x.make(side, 0), n < 15 ? 15 : GraphWire.FULL);
                Checks.is("then none", x.make(side, 0), GraphWire.FULL);
            }
        }
        arrivalGetsLeastNumber();
    }

    private static void arrivalGetsLeastNumber() {
        for (int n = 0; n < 16; n++) {
            Wire x = new Wire();
            Nodes.define(x);
            Nodes.make(x, 1, 16);
            Nodes.make(x, 0, 1);
            x.pin(32 + n, false);
            x.pin(47, false);
            x.collect(1);
            Checks.is("an arrival too", x.send(0, true), n);
            Checks.is("and the next", x.send(0, true), n < 15 ? 15 : GraphWire.FULL);
        }
    }

    private static void classForGood() {
        Checks.sentence("It has a class for good");
        Wire x = new Wire();
        x.define(0, 0, -1, 0);
        x.make(0, 0);
        x.define(0, 1, 0, 0);
        x.make(0, 1);
        x.define(0, 5, 1, 0);
        x.make(0, 5);
        Checks.is("0", x.look(0), 8);
        Checks.is("1", x.look(1), 9);
        Checks.is("5", x.look(2), 13);
        x.pin(1, false);
        x.collect(0);
        Checks.is("its number goes to another", x.make(0, 5), 1);
        Checks.is("of another class", x.look(1), 13);
    }

    private static void firstValues() {
        Checks.sentence("numbers are 0 and references null at first");
        for (int side = 0; side < 2; side++) {
            Wire x = new Wire();
            State.rich(x);
            int n = side == 0 ? 7 : 6;
            int id = 32 * side + n;
            Checks.is("a number that was never used, or was", x.make(side, 2), n);
            isAtFirst(x, id);
            for (int name : new int[] {0, 2, 4, 5}) {
                x.set(id, name, 7);
            }
            for (int name : new int[] {1, 3, 6}) {
                x.link(id, name, id);
            }
            x.pin(id, false);
            x.collect(side);
            int again = x.make(side, 2);
            if (again < n) {
                again = x.make(side, 2);
            }
            Checks.is("the number again", again, n);
            isAtFirst(x, id);
        }
        arrivalHasFirstValues();
    }

    private static void isAtFirst(Wire x, int id) {
        for (int name : new int[] {0, 2, 4, 5}) {
            Checks.is("number " + name, x.num(id, name), 0);
        }
        for (int name : new int[] {1, 3, 6}) {
            Checks.is("reference " + name, x.ref(id, name), -1);
        }
    }

    private static void arrivalHasFirstValues() {
        Wire x = new Wire();
        x.define(0, 0, -1, 0);
        x.define(1, 0, -1, 0);
        x.field(1, 0, 0, REFERENCE);
        x.field(1, 0, 1, LONG);
        x.make(0, 0);
        x.make(1, 0);
        x.link(32, 0, 32);
        x.set(32, 1, 77);
        x.pin(32, false);
        x.collect(1);
        Checks.is("an arrival with a number that was used", x.send(0, false), 0);
        Checks.is("a reference that the sender lacks", x.ref(32, 0), -1);
        Checks.is("a number that the sender lacks", x.num(32, 1), 0);
    }

    private static void referencesOfASide() {
        Checks.sentence("References are to objects of the same side.");
        Wire x = new Wire();
        Nodes.define(x);
        Nodes.make(x, 0, 16);
        Nodes.make(x, 1, 16);
        for (int target = 0; target < 48; target++) {
            boolean first = target < 16;
            boolean second = target >= 32;
            Checks.is("side 0 to " + target, x.link(15, 9, target) ? 1 : 0, first ? 1 : 0);
            Checks.is("it refers", x.ref(15, 9), first ? target : 15);
            Checks.is("side 1 to " + target, x.link(32, 9, target) ? 1 : 0, second ? 1 : 0);
            Checks.is("it refers", x.ref(32, 9), second ? target : -1);
        }
    }

    // ---- Promise 4 ----

    private static void makesPinned() {
        Checks.sentence("Makes an object, pinned, and answers its number");
        for (int side = 0; side < 2; side++) {
            Wire x = new Wire();
            Nodes.define(x);
            for (int n = 0; n < 16; n++) {
                Checks.is("its number, not its ID", x.make(side, 0), n);
                Checks.is("pinned", x.look(32 * side + n), 8);
                Checks.is("none is taken away", x.collect(side), 0);
            }
            x.pin(32 * side, false);
            x.collect(side);
            Checks.is("a number again", x.make(side, 0), 0);
            Checks.is("pinned again", x.look(32 * side), 8);
        }
    }

    private static void makeBad() {
        Checks.sentence("BAD if side is not 0 or 1 or cls no defined class of it");
        for (int side : Checks.outside(0, 1)) {
            State.unchanged("side " + side, RICH, x -> x.make(side, 0), GraphWire.BAD);
            State.unchanged("side " + side, RICH, x -> x.make(side, 2), GraphWire.BAD);
            State.unchanged("side " + side, NEW, x -> x.make(side, 0), GraphWire.BAD);
        }
        for (int cls : Checks.outside(0, 5)) {
            State.unchanged("cls " + cls, RICH, x -> x.make(0, cls), GraphWire.BAD);
            State.unchanged("cls " + cls, RICH, x -> x.make(1, cls), GraphWire.BAD);
        }
        State.unchanged("defined on side 1 alone", RICH, x -> x.make(0, 3), GraphWire.BAD);
        State.unchanged("defined on side 0 alone", RICH, x -> x.make(1, 4), GraphWire.BAD);
        State.unchanged("defined on side 0 alone", RICH, x -> x.make(1, 5), GraphWire.BAD);
        Wire x = new Wire();
        x.define(0, 0, -1, 0);
        x.define(0, 5, -1, 0);
        Checks.is("class 0", x.make(0, 0), 0);
        Checks.is("class 5", x.make(0, 5), 1);
    }

    private static void fill(Wire x, int side) {
        Nodes.define(x);
        Nodes.make(x, side, 16);
        x.pin(32 * side + 3, false);
        x.link(32 * side + 3, 0, 32 * side + 3);
        x.set(32 * side + 15, 5, 15);
        x.set(32 * side, 5, 99);
    }

    private static void makeFull() {
        Checks.sentence("FULL if the side has 16 objects");
        State.unchanged("side 0", x -> fill(x, 0), x -> x.make(0, 0), GraphWire.FULL);
        State.unchanged("side 1", x -> fill(x, 1), x -> x.make(1, 0), GraphWire.FULL);
        for (int side = 0; side < 2; side++) {
            Wire x = new Wire();
            Nodes.define(x);
            Nodes.make(x, side, 15);
            Checks.is("15 objects", x.make(side, 0), 15);
            Checks.is("16 objects", x.make(side, 0), GraphWire.FULL);
            Checks.is("the other side has none", x.make(1 - side, 0), 0);
            x.pin(32 * side + 15, false);
            Checks.is("16 objects, one not pinned", x.make(side, 0), GraphWire.FULL);
            x.collect(side);
            Checks.is("15 again", x.make(side, 0), 15);
        }
        Wire x = new Wire();
        Nodes.define(x);
        Nodes.make(x, 0, 1);
        for (int n = 0; n < 16; n++) {
            x.send(0, true);
        }
        Checks.is("16 that arrived", x.make(1, 0), GraphWire.FULL);
    }

    // ---- Promise 5 ----

    private static final long[][] KEPT = {
        {0, 0, 0, 0, 0},
        {1, 1, 1, 1, 1},
        {-1, -1, -1, -1, -1},
        {127, 127, 127, 127, 127},
        {128, -128, 128, 128, 128},
        {-128, -128, -128, -128, -128},
        {-129, 127, -129, -129, -129},
        {255, -1, 255, 255, 255},
        {256, 0, 256, 256, 256},
        {-256, 0, -256, -256, -256},
        {32767, -1, 32767, 32767, 32767},
        {32768, 0, -32768, 32768, 32768},
        {-32768, 0, -32768, -32768, -32768},
        {-32769, -1, 32767, -32769, -32769},
        {65535, -1, -1, 65535, 65535},
        {65536, 0, 0, 65536, 65536},
        {2147483647L, -1, -1, 2147483647L, 2147483647L},
        {2147483648L, 0, 0, -2147483648L, 2147483648L},
        {-2147483648L, 0, 0, -2147483648L, -2147483648L},
        {-2147483649L, -1, -1, 2147483647L, -2147483649L},
        {4294967295L, -1, -1, -1, 4294967295L},
        {4294967296L, 0, 0, 0, 4294967296L},
        {4294967297L, 1, 1, 1, 4294967297L},
        {Long.MAX_VALUE, -1, -1, -1, Long.MAX_VALUE},
        {Long.MIN_VALUE, 0, 0, 0, Long.MIN_VALUE},
    };

    private static void lowestBits() {
        Checks.sentence("Sets a number field of an object to v, of which the lowest 8, 16, 32 or 64 bits are kept, signed.");
        for (int side = 0; side < 2; side++) {
            for (int kind = BYTE; kind <= LONG; kind++) {
                Wire x = new Wire();
                x.define(side, 0, -1, 0);
                x.field(side, 0, 4, kind);
                for (int n = 0; n < 16; n++) {
                    x.make(side, 0);
                }
                int id = 32 * side + 15;
                for (long[] row : KEPT) {
                    Checks.yes("kind " + kind + " takes " + row[0], x.set(id, 4, row[0]));
                    Checks.is("kind " + kind + " of " + row[0], x.num(id, 4), row[1 + kind]);
                }
                Checks.is("no other object changes", x.num(id - 1, 4), 0);
            }
        }
        inherited();
    }

    private static void inherited() {
        Wire x = new Wire();
        State.rich(x);
        Checks.yes("the class's own", x.set(0, 5, Long.MIN_VALUE));
        Checks.yes("its parent's", x.set(0, 2, 32768));
        Checks.yes("its parent's parent's", x.set(0, 0, 128));
        Checks.is("a long", x.num(0, 5), Long.MIN_VALUE);
        Checks.is("a short", x.num(0, 2), -32768);
        Checks.is("a byte", x.num(0, 0), -128);
        Checks.is("and none beside", x.num(0, 4), 70000);
    }

    private static void setNoObject() {
        Checks.sentence("set: false, and nothing changes, if there is no such object");
        for (int id : NO_OBJECTS) {
            State.refused("ID " + id, RICH, x -> x.set(id, 0, 1));
        }
        State.refused("none at all", NEW, x -> x.set(0, 0, 1));
        State.Use gone = x -> {
            State.rich(x);
            x.pin(8, false);
            x.collect(0);
            x.collect(1);
        };
        State.refused("gone, side 0", gone, x -> x.set(8, 0, 1));
        State.refused("gone, side 1", gone, x -> x.set(37, 0, 1));
        Wire x = new Wire();
        fill(x, 0);
        fill(x, 1);
        for (int id : new int[] {0, 15, 32}) {
            Checks.yes("ID " + id, x.set(id, 5, 1));
        }
    }

    private static void setNoField() {
        Checks.sentence("set: false, and nothing changes, if .. it has no number field of that name");
        for (int name : Checks.outside(0, 9)) {
            State.refused("name " + name, RICH, x -> x.set(1, name, 1));
            State.refused("name " + name, RICH, x -> x.set(33, name, 1));
        }
        for (int name : new int[] {1, 3, 6}) {
            State.refused("a reference, name " + name, RICH, x -> x.set(0, name, 1));
            State.refused("a reference to 0, name " + name, RICH, x -> x.set(0, name, 0));
        }
        for (int name = 7; name < 10; name++) {
            int asked = name;
            State.refused("no field of the name " + name, RICH, x -> x.set(0, asked, 1));
        }
        State.refused("a field of a class below", RICH, x -> x.set(1, 4, 1));
        State.refused("a field of a class two below", RICH, x -> x.set(2, 5, 1));
        State.refused("a number of another class", RICH, x -> x.set(4, 2, 1));
        Wire x = new Wire();
        x.define(0, 0, -1, 0);
        x.field(0, 0, 0, SHORT);
        x.field(0, 0, 9, SHORT);
        x.make(0, 0);
        Checks.yes("name 0", x.set(0, 0, 1));
        Checks.yes("name 9", x.set(0, 9, 2));
        Checks.is("name 0", x.num(0, 0), 1);
        Checks.is("name 9", x.num(0, 9), 2);
    }

    // ---- Promise 6 ----

    private static void linkTarget() {
        Checks.sentence("Sets a reference field of an object: to the object with ID target, or to null if target is -1.");
        for (int side = 0; side < 2; side++) {
            Wire x = new Wire();
            fill(x, side);
            int first = 32 * side;
            Checks.yes("to the first", x.link(first + 7, 9, first));
            Checks.is("the first", x.ref(first + 7, 9), first);
            Checks.yes("to the last", x.link(first + 7, 9, first + 15));
            Checks.is("the last", x.ref(first + 7, 9), first + 15);
            Checks.yes("to itself", x.link(first + 7, 9, first + 7));
            Checks.is("itself", x.ref(first + 7, 9), first + 7);
            Checks.yes("to null", x.link(first + 7, 9, -1));
            Checks.is("null", x.ref(first + 7, 9), -1);
            Checks.yes("to null again", x.link(first + 7, 9, -1));
            Checks.yes("to one that is not pinned", x.link(first + 7, 9, first + 3));
            Checks.is("that one", x.ref(first + 7, 9), first + 3);
            Checks.is("the other field stays", x.ref(first + 7, 0), -1);
            Checks.is("and the other objects", x.ref(first + 8, 9), -1);
        }
    }

    private static void linkNoObject() {
        Checks.sentence("link: false, and nothing changes, if there is no such object");
        for (int id : NO_OBJECTS) {
            State.refused("ID " + id, RICH, x -> x.link(id, 1, -1));
            State.refused("ID " + id, RICH, x -> x.link(id, 1, 0));
            State.refused("ID " + id, RICH, x -> x.link(id, 1, 32));
        }
        State.refused("none at all", NEW, x -> x.link(0, 0, -1));
    }

    private static void linkNoField() {
        Checks.sentence("link: false, and nothing changes, if .. it has no reference field of that name");
        for (int name : Checks.outside(0, 9)) {
            State.refused("name " + name, RICH, x -> x.link(1, name, 1));
            State.refused("name " + name, RICH, x -> x.link(33, name, -1));
        }
        for (int name : new int[] {0, 2, 4, 5}) {
            State.refused("a number, name " + name, RICH, x -> x.link(0, name, 0));
            State.refused("a number to null, name " + name, RICH, x -> x.link(0, name, -1));
        }
        for (int name = 7; name < 10; name++) {
            int asked = name;
            State.refused("no field of the name " + name, RICH, x -> x.link(0, asked, 0));
            State.refused("no field of the name to null " + name, RICH, x -> x.link(0, asked, -1));
        }
        State.refused("a field of a class below", RICH, x -> x.link(1, 6, 1));
        State.refused("a field of a class two below", RICH, x -> x.link(2, 6, 1));
        State.refused("a reference of another class", RICH, x -> x.link(4, 1, 4));
    }

    private static void linkWrongTarget() {
        Checks.sentence("link: false, and nothing changes, if .. target is neither -1 nor the ID of an object of the same side");
        for (int target : NO_OBJECTS) {
            if (target != -1) {
                State.refused("side 0 to " + target, RICH, x -> x.link(0, 1, target));
                State.refused("side 1 to " + target, RICH, x -> x.link(32, 1, target));
            }
        }
        for (int target = 32; target < 38; target++) {
            int other = target;
            State.refused("side 0 to side 1, " + target, RICH, x -> x.link(0, 1, other));
        }
        for (int target = 0; target < 7; target++) {
            int other = target;
            State.refused("side 1 to side 0, " + target, RICH, x -> x.link(32, 1, other));
        }
        Wire x = new Wire();
        State.rich(x);
        Checks.yes("-1", x.link(0, 1, -1));
        Checks.is("null", x.ref(0, 1), -1);
        Checks.yes("the last that is there", x.link(0, 1, 9));
        Checks.no("the next is not", x.link(0, 1, 10));
        Checks.is("it stays", x.ref(0, 1), 9);
    }

    // ---- Promise 7 ----

    private static void pinOnAndOff() {
        Checks.sentence("Pins an object or takes the pin away.");
        for (int side = 0; side < 2; side++) {
            Wire x = new Wire();
            fill(x, side);
            for (int n : new int[] {0, 15}) {
                int id = 32 * side + n;
                Checks.yes("on, while it is", x.pin(id, true));
                Checks.is("one pin", x.look(id), 8);
                Checks.yes("away", x.pin(id, false));
                Checks.is("none, though pinned twice", x.look(id), 0);
                Checks.yes("away, while it is", x.pin(id, false));
                Checks.is("none", x.look(id), 0);
                Checks.yes("on", x.pin(id, true));
                Checks.is("one, though taken away twice", x.look(id), 8);
            }
        }
        State.unchanged("on, while it is", RICH, x -> x.pin(0, true) ? 1 : 0, 1);
        State.unchanged("away, while it is", RICH, x -> x.pin(1, false) ? 1 : 0, 1);
    }

    private static void pinNoObject() {
        Checks.sentence("pin: false, and nothing changes, if there is no such object");
        for (int id : NO_OBJECTS) {
            State.refused("on, ID " + id, RICH, x -> x.pin(id, true));
            State.refused("away, ID " + id, RICH, x -> x.pin(id, false));
        }
        State.refused("none at all", NEW, x -> x.pin(0, true));
        Wire x = new Wire();
        Nodes.define(x);
        Checks.no("pinned before it is made", x.pin(0, true));
        Nodes.make(x, 0, 1);
        x.pin(0, false);
        x.collect(0);
        Checks.no("gone", x.pin(0, true));
        x.make(1, 0);
        Checks.is("an arrival", x.send(32, false), 0);
        Checks.yes("is there", x.pin(0, false));
    }

    // ---- Promises 11 to 13 ----

    private static void numValue() {
        Checks.sentence("num: The value of a number field");
        State.unchanged("a byte", RICH, x -> x.num(0, 0), -5);
        State.unchanged("a short", RICH, x -> x.num(0, 2), 300);
        State.unchanged("an int", RICH, x -> x.num(0, 4), 70000);
        State.unchanged("a long", RICH, x -> x.num(0, 5), 1L << 40);
        State.unchanged("of side 1", RICH, x -> x.num(34, 5), 1L << 40);
        State.unchanged("not set", RICH, x -> x.num(3, 5), 0);
    }

    private static void numNone() {
        Checks.sentence("num: 0 if there is no such object or it has no number field of that name");
        for (int id : NO_OBJECTS) {
            State.unchanged("ID " + id, RICH, x -> x.num(id, 0), 0);
        }
        for (int name : Checks.outside(0, 9)) {
            State.unchanged("name " + name, RICH, x -> x.num(1, name), 0);
            State.unchanged("name " + name, RICH, x -> x.num(35, name), 0);
        }
        for (int name : new int[] {1, 3, 6, 7, 8, 9}) {
            State.unchanged("a reference, or none of the name " + name, RICH, x -> x.num(0, name), 0);
        }
        Wire x = new Wire();
        fill(x, 0);
        fill(x, 1);
        Checks.is("the first, full", x.num(0, 5), 99);
        Checks.is("the last, full", x.num(15, 5), 15);
        Checks.is("after the last of side 0", x.num(16, 5), 0);
        Checks.is("before the first of side 1", x.num(31, 5), 0);
        Checks.is("the first of side 1", x.num(32, 5), 99);
        Checks.is("the last of side 1", x.num(47, 5), 15);
        Checks.is("after the last of side 1", x.num(48, 5), 0);
        x.set(3, 5, 33);
        x.link(3, 0, -1);
        x.collect(0);
        Checks.is("gone", x.num(3, 5), 0);
    }

    private static void refValue() {
        Checks.sentence("The ID of the object that a reference field refers to; -1 if it is null");
        State.unchanged("an ID", RICH, x -> x.ref(0, 1), 1);
        State.unchanged("ID 0", RICH, x -> x.ref(3, 6), 0);
        State.unchanged("an ID of side 1", RICH, x -> x.ref(32, 1), 33);
        State.unchanged("the first ID of side 1", RICH, x -> x.ref(33, 1), 32);
        State.unchanged("null", RICH, x -> x.ref(2, 1), -1);
        State.unchanged("null on side 1", RICH, x -> x.ref(32, 6), -1);
    }

    private static void refNone() {
        Checks.sentence("ref: -2 if there is no such object or it has no reference field of that name");
        for (int id : NO_OBJECTS) {
            State.unchanged("ID " + id, RICH, x -> x.ref(id, 1), -2);
        }
        for (int name : Checks.outside(0, 9)) {
            State.unchanged("name " + name, RICH, x -> x.ref(1, name), -2);
            State.unchanged("name " + name, RICH, x -> x.ref(35, name), -2);
        }
        for (int name : new int[] {0, 2, 4, 5, 7, 8, 9}) {
            State.unchanged("a number, or none of the name " + name, RICH, x -> x.ref(0, name), -2);
        }
        Wire x = new Wire();
        fill(x, 0);
        x.link(0, 0, 15);
        x.link(15, 9, 0);
        Checks.is("name 0 of the first", x.ref(0, 0), 15);
        Checks.is("name 9 of the last", x.ref(15, 9), 0);
        Checks.is("after the last", x.ref(16, 0), -2);
        Checks.is("no object of side 1", x.ref(32, 0), -2);
        Checks.is("3 goes", x.collect(0), 1);
        Checks.is("gone", x.ref(3, 0), -2);
    }

    private static void lookValue() {
        Checks.sentence("8 times the number of pins (0 or 1) plus the class of an object");
        for (int side = 0; side < 2; side++) {
            Wire x = new Wire();
            for (int cls = 0; cls < 6; cls++) {
                x.define(side, cls, -1, 0);
                x.make(side, cls);
            }
            for (int cls = 0; cls < 6; cls++) {
                int id = 32 * side + cls;
                Checks.is("class " + cls, x.look(id), 8 + cls);
                x.pin(id, true);
                Checks.is("pinned twice, class " + cls, x.look(id), 8 + cls);
                x.pin(id, false);
                Checks.is("not pinned, class " + cls, x.look(id), cls);
            }
        }
        State.unchanged("pinned", RICH, x -> x.look(0), 10);
        State.unchanged("not pinned", RICH, x -> x.look(34), 2);
    }

    private static void lookNone() {
        Checks.sentence("look: -1 if there is no such object");
        for (int id : NO_OBJECTS) {
            State.unchanged("ID " + id, RICH, x -> x.look(id), -1);
        }
        for (int side = 0; side < 2; side++) {
            Wire x = new Wire();
            fill(x, side);
            Checks.is("before the first", x.look(32 * side - 1), -1);
            Checks.is("the first", x.look(32 * side), 8);
            Checks.is("the last", x.look(32 * side + 15), 8);
            Checks.is("after the last", x.look(32 * side + 16), -1);
            Checks.is("on the other side", x.look(32 - 32 * side), -1);
        }
    }

    // ---- Promise 17 ----

    private static void badBeforeFull() {
        Checks.sentence("make: BAD is tested before FULL.");
        for (int s = 0; s < 2; s++) {
            int side = s;
            State.Use full = x -> {
                fill(x, side);
                x.define(1 - side, 1, -1, 0);
            };
            State.unchanged("a class that is not defined", full, x -> x.make(side, 2), GraphWire.BAD);
            State.unchanged("one of the other side", full, x -> x.make(side, 1), GraphWire.BAD);
            State.unchanged("class -1", full, x -> x.make(side, -1), GraphWire.BAD);
            State.unchanged("class 6", full, x -> x.make(side, 6), GraphWire.BAD);
            State.unchanged("side -1", full, x -> x.make(-1, 0), GraphWire.BAD);
            State.unchanged("side 2", full, x -> x.make(2, 0), GraphWire.BAD);
            State.unchanged("a defined class", full, x -> x.make(side, 0), GraphWire.FULL);
        }
        Wire x = new Wire();
        Nodes.define(x);
        Nodes.make(x, 0, 16);
        Nodes.make(x, 1, 16);
        Checks.is("both full, side 2", x.make(2, 0), GraphWire.BAD);
        Checks.is("both full, class 1", x.make(1, 1), GraphWire.BAD);
        Checks.is("both full, class 0", x.make(1, 0), GraphWire.FULL);
    }
}
