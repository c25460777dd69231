// The boundary cases of classes, sentence by sentence: the terms, and the promises 1 to 3.
public final class ClassBoundaryTest {
    private static final int BYTE = Checks.BYTE;
    private static final int SHORT = Checks.SHORT;
    private static final int INT = Checks.INT;
    private static final int LONG = Checks.LONG;
    private static final int REFERENCE = Checks.REFERENCE;
    private static final State.Use NEW = x -> { };
    private static final State.Use RICH = State::rich;

    public static void main(String[] args) {
        sidesOfTheirOwn();
        classNames();
        parentOfItsSide();
        upToFourFields();
        fieldNames();
        fieldKinds();
        chainOfThree();
        fieldsOfAllClasses();
        noNameTwice();
        classesNeverChange();
        lastOfItsSide();
        nothingAtFirst();
        anyVersion();
        withoutFields();
        withoutParent();
        defineWrongSide();
        defineWrongClass();
        defineTwice();
        defineWrongParent();
        defineLongChain();
        fieldWrongSide();
        fieldWrongClass();
        fieldWrongName();
        fieldWrongKind();
        fieldNameOfTheChain();
        fieldTheFifth();
        fieldWithAnObject();
        Checks.finish();
    }

    // ---- Terms ----

    private static void sidesOfTheirOwn() {
        Checks.sentence("SIDES 0 and 1 have classes and objects of their own.");
        for (int side = 0; side < 2; side++) {
            int other = 1 - side;
            Wire x = new Wire();
            Checks.yes("a class of side " + side, x.define(side, 0, -1, 0));
            Checks.is("is none of the other", x.make(other, 0), GraphWire.BAD);
            Checks.is("an object", x.make(side, 0), 0);
            Checks.is("is there", x.look(32 * side), 8);
            Checks.is("and not on the other side", x.look(32 * other), -1);
            Checks.yes("the name is free there", x.define(other, 0, -1, 0));
            Checks.is("and the number", x.make(other, 0), 0);
        }
    }

    private static void classNames() {
        Checks.sentence("CLASSES have the names 0 to 5 on each side.");
        Wire x = new Wire();
        for (int side = 0; side < 2; side++) {
            for (int cls = 0; cls < 6; cls++) {
                Checks.yes("class " + cls + " of side " + side, x.define(side, cls, -1, 0));
            }
        }
        for (int side = 0; side < 2; side++) {
            for (int cls = 0; cls < 6; cls++) {
                Checks.is("each is there", x.make(side, cls), cls);
                Checks.is("under its name", x.look(32 * side + cls), 8 + cls);
            }
            Checks.no("there is none below", x.define(side, -1, -1, 0));
            Checks.no("there is no seventh", x.define(side, 6, -1, 0));
        }
    }

    private static void parentOfItsSide() {
        Checks.sentence("perhaps a parent (a class of its side that was defined before it)");
        Wire x = new Wire();
        Checks.no("before it is defined", x.define(0, 1, 5, 0));
        Checks.yes("the parent on side 1", x.define(1, 5, -1, 0));
        Checks.no("which is the other side", x.define(0, 1, 5, 0));
        Checks.yes("the parent on side 0", x.define(0, 5, -1, 0));
        Checks.yes("now", x.define(0, 1, 5, 0));
        Checks.yes("the greatest name below the least", x.define(1, 0, 5, 0));
        Checks.yes("and the least below that", x.define(1, 4, 0, 0));
    }

    private static void upToFourFields() {
        Checks.sentence("up to 4 fields of its own");
        Wire x = new Wire();
        x.define(0, 0, -1, 0);
        is4thTaken5thNot(x, 0, 0);
        x.define(0, 1, 0, 0);
        is4thTaken5thNot(x, 1, 4);
        x.define(0, 2, -1, 0);
        is4thTaken5thNot(x, 2, 5);
        x.define(0, 3, 2, 0);
        x.make(0, 0);
        x.make(0, 1);
        x.make(0, 3);
        for (int name = 0; name < 10; name++) {
            Checks.is("its own four", x.set(0, name, 1) ? 1 : 0, name < 4 ? 1 : 0);
            Checks.is("its own four and its parent's", x.set(1, name, 1) ? 1 : 0, name < 8 ? 1 : 0);
            Checks.is("its parent's four alone", x.set(2, name, 1) ? 1 : 0, name >= 5 && name < 9 ? 1 : 0);
        }
    }

    private static void is4thTaken5thNot(Wire x, int cls, int firstName) {
        for (int i = 0; i < 4; i++) {
            Checks.yes("field " + i + " of class " + cls, x.field(0, cls, firstName + i, INT));
        }
        Checks.no("a fifth of class " + cls, x.field(0, cls, firstName + 4, INT));
    }

    private static void fieldNames() {
        Checks.sentence("each with a name 0 to 9");
        for (int name = 0; name < 10; name++) {
            Wire x = new Wire();
            x.define(0, 0, -1, 0);
            Checks.yes("name " + name, x.field(0, 0, name, LONG));
            x.make(0, 0);
            for (int asked = 0; asked < 10; asked++) {
                Checks.is(asked + " of a class with " + name, x.set(0, asked, 5) ? 1 : 0, asked == name ? 1 : 0);
                Checks.is("value", x.num(0, asked), asked == name ? 5 : 0);
            }
        }
        Wire x = new Wire();
        x.define(0, 0, -1, 0);
        Checks.no("name -1", x.field(0, 0, -1, LONG));
        Checks.no("name 10", x.field(0, 0, 10, LONG));
    }

    private static void fieldKinds() {
        Checks.sentence("a kind: 0 byte, 1 short, 2 int, 3 long, 4 reference");
        long[] kept = {0xffffffffffffff88L, 0xffffffffffff8788L, 0xffffffff85868788L, 0x8182838485868788L};
        for (int kind = 0; kind < 5; kind++) {
            Wire x = new Wire();
            x.define(0, 0, -1, 0);
            Checks.yes("kind " + kind, x.field(0, 0, 3, kind));
            x.make(0, 0);
            Checks.is("takes a number", x.set(0, 3, 0x8182838485868788L) ? 1 : 0, kind < 4 ? 1 : 0);
            Checks.is("keeps it", x.num(0, 3), kind < 4 ? kept[kind] : 0);
            Checks.is("takes a reference", x.link(0, 3, 0) ? 1 : 0, kind < 4 ? 0 : 1);
            Checks.is("keeps it", x.ref(0, 3), kind < 4 ? -2 : 0);
        }
        Wire x = new Wire();
        x.define(0, 0, -1, 0);
        Checks.no("kind -1", x.field(0, 0, 3, -1));
        Checks.no("kind 5", x.field(0, 0, 3, 5));
    }

    private static void chainOfThree() {
        Checks.sentence("Its CHAIN is the class itself, its parent, the parent's parent and so on: 3 classes at most.");
        for (int side = 0; side < 2; side++) {
            Wire x = new Wire();
            Checks.yes("1", x.define(side, 5, -1, 0));
            Checks.yes("2", x.define(side, 3, 5, 0));
            Checks.yes("3", x.define(side, 1, 3, 0));
            Checks.no("4", x.define(side, 0, 1, 0));
            Checks.yes("another 3", x.define(side, 0, 3, 0));
            Checks.no("4 below that", x.define(side, 2, 0, 0));
            Checks.yes("another 2", x.define(side, 2, 5, 0));
            Checks.yes("3 below that", x.define(side, 4, 2, 0));
        }
    }

    private static void fieldsOfAllClasses() {
        Checks.sentence("Its fields are those of all classes of its chain");
        Wire x = new Wire();
        defineTenFields(x, 0);
        x.make(0, 0);
        x.make(0, 1);
        x.make(0, 2);
        for (int name = 0; name < 10; name++) {
            Checks.is("of the topmost " + name, x.set(0, name, 1) ? 1 : 0, name < 4 ? 1 : 0);
            Checks.is("of the middle " + name, x.set(1, name, 2) ? 1 : 0, name < 8 ? 1 : 0);
            Checks.yes("of the lowest, all ten names " + name, x.set(2, name, 30 + name));
        }
        for (int name = 0; name < 10; name++) {
            Checks.is("each has its own value", x.num(2, name), 30 + name);
        }
    }

    /** Classes 0, 1 below 0 and 2 below 1, which has a field of every name. */
    private static void defineTenFields(Wire x, int side) {
        for (int cls = 0; cls < 3; cls++) {
            x.define(side, cls, cls - 1, 0);
            for (int name = 4 * cls; name < 4 * cls + 4 && name < 10; name++) {
                x.field(side, cls, name, LONG);
            }
        }
    }

    private static void noNameTwice() {
        Checks.sentence("no name comes twice among them");
        Wire x = new Wire();
        defineTenFields(x, 1);
        for (int name = 0; name < 10; name++) {
            for (int kind = 0; kind < 5; kind++) {
                Checks.no("a name of the chain " + name, x.field(1, 2, name, kind));
            }
        }
        x.define(1, 3, 1, 0);
        Checks.yes("a name of another chain", x.field(1, 3, 9, REFERENCE));
        Checks.yes("and another", x.field(1, 3, 8, BYTE));
        Checks.no("of the middle class", x.field(1, 3, 7, LONG));
        x.define(1, 4, -1, 0);
        Checks.yes("a class without a parent", x.field(1, 4, 0, LONG));
    }

    private static void classesNeverChange() {
        Checks.sentence("A class and its version and parent never change once they are defined");
        State.refused("another version", RICH, x -> x.define(0, 2, 1, 13));
        State.refused("another parent", RICH, x -> x.define(0, 2, 0, 12));
        State.refused("no parent", RICH, x -> x.define(0, 2, -1, 12));
        State.refused("a parent now", RICH, x -> x.define(0, 0, 4, 10));
        State.refused("without objects", RICH, x -> x.define(0, 5, -1, 3));
        Wire x = new Wire();
        x.define(0, 0, -1, 5);
        x.define(1, 0, -1, 5);
        x.make(0, 0);
        x.define(0, 0, -1, 6);
        x.define(1, 0, -1, 7);
        Checks.is("the versions are still equal", x.send(0, false), 0);
    }

    private static void lastOfItsSide() {
        Checks.sentence("fields can be added to the class that was defined last on its side");
        Wire x = new Wire();
        x.define(0, 5, -1, 0);
        x.define(1, 0, -1, 0);
        Checks.yes("side 0", x.field(0, 5, 0, INT));
        Checks.yes("side 1", x.field(1, 0, 0, INT));
        x.define(0, 2, -1, 0);
        Checks.no("not the last any more", x.field(0, 5, 1, INT));
        Checks.yes("the last", x.field(0, 2, 1, INT));
        Checks.yes("still the last of side 1", x.field(1, 0, 1, INT));
        Checks.no("a define that is refused", x.define(0, 2, -1, 0));
        Checks.no("one of the earlier class", x.define(0, 5, -1, 0));
        Checks.no("does not make that the last", x.field(0, 5, 2, INT));
        Checks.yes("but leaves the last", x.field(0, 2, 2, INT));
    }

    // ---- Promise 1 ----

    private static void nothingAtFirst() {
        Checks.sentence("No classes, no objects, no pairs.");
        for (int side = 0; side < 2; side++) {
            Wire x = new Wire();
            for (int cls = -1; cls < 7; cls++) {
                Checks.is("no class " + cls, x.make(side, cls), GraphWire.BAD);
                Checks.no("to add a field to", x.field(side, cls, 0, 0));
                Checks.no("to be a parent", cls >= 0 && x.define(side, 3, cls, 0));
            }
            Checks.is("nothing to collect", x.collect(side), 0);
        }
        Wire x = new Wire();
        for (int id = -1; id <= 64; id++) {
            Checks.is("no object " + id, x.look(id), -1);
            Checks.is("no pair " + id, x.sent(id), -1);
            Checks.is("nothing to send " + id, x.send(id, false), GraphWire.BAD);
            Checks.no("nothing alike " + id, x.alike(id, id));
        }
        Checks.is("no culprit", x.culprit(), -1);
        apart();
    }

    private static void apart() {
        Wire used = new Wire();
        State.rich(used);
        Wire x = new Wire();
        Checks.is("what another object has is not here", x.look(0), -1);
        Checks.is("nor its culprit", x.culprit(), -1);
        Checks.yes("nor its classes", x.define(0, 0, -1, 0));
        Checks.is("nor its numbers", x.make(0, 0), 0);
        Checks.is("nor its pairs", x.sent(0), -1);
        Checks.is("and that one keeps its own", used.look(0), 10);
        Checks.is("with its pairs", used.sent(0), 34);
    }

    // ---- Promise 2 ----

    private static void anyVersion() {
        Checks.sentence("Defines class cls of a side with a version (any int)");
        int[] versions = {Integer.MIN_VALUE, Integer.MIN_VALUE + 1, -65536, -256, -1, 0, 1, 127, 128, 255, 256, 32768, 65536, 1 << 24,
            Integer.MAX_VALUE - 1, Integer.MAX_VALUE};
        for (int version : versions) {
            for (int other : versions) {
                Wire x = new Wire();
                Checks.yes("version " + version, x.define(0, 0, -1, version));
                Checks.yes("version " + other, x.define(1, 0, -1, other));
                x.make(0, 0);
                int due = version == other ? 0 : GraphWire.VERSION;
                Checks.is("versions " + version + " and " + other, x.send(0, false), due);
            }
        }
    }

    private static void withoutFields() {
        Checks.sentence("without fields");
        for (int side = 0; side < 2; side++) {
            Wire x = new Wire();
            x.define(side, 0, -1, 0);
            x.field(side, 0, 9, LONG);
            x.define(side, 1, -1, 0);
            x.define(side, 2, 0, 0);
            x.make(side, 1);
            x.make(side, 2);
            for (int name = 0; name < 10; name++) {
                Checks.no("no number", x.set(32 * side, name, 1));
                Checks.is("no reference", x.ref(32 * side, name), -2);
                Checks.is("the parent's alone", x.set(32 * side + 1, name, 1) ? 1 : 0, name == 9 ? 1 : 0);
                Checks.is("and no reference", x.ref(32 * side + 1, name), -2);
            }
        }
    }

    private static void withoutParent() {
        Checks.sentence("parent -1: no parent");
        Wire x = new Wire();
        Checks.yes("5", x.define(0, 5, -1, 0));
        x.field(0, 5, 0, INT);
        Checks.yes("0", x.define(0, 0, -1, 0));
        Checks.yes("a name that 5 has", x.field(0, 0, 0, REFERENCE));
        Checks.yes("a chain of 2 below", x.define(0, 1, 0, 0));
        Checks.yes("a chain of 3 below", x.define(0, 2, 1, 0));
        x.make(0, 0);
        Checks.is("no field of 5", x.ref(0, 0), -1);
    }

    private static void defineWrongSide() {
        Checks.sentence("define: false, and nothing changes, if side is not 0 or 1");
        for (int side : Checks.outside(0, 1)) {
            State.refused("side " + side, NEW, x -> x.define(side, 0, -1, 0));
            State.refused("side " + side, RICH, x -> x.define(side, 3, -1, 0));
            State.refused("side " + side, RICH, x -> x.define(side, 4, 0, 0));
        }
        Wire x = new Wire();
        Checks.yes("side 0", x.define(0, 3, -1, 0));
        Checks.yes("side 1", x.define(1, 3, -1, 0));
    }

    private static void defineWrongClass() {
        Checks.sentence("define: false, and nothing changes, if .. cls is not 0 to 5");
        for (int cls : Checks.outside(0, 5)) {
            State.refused("cls " + cls, NEW, x -> x.define(0, cls, -1, 0));
            State.refused("cls " + cls, NEW, x -> x.define(1, cls, -1, 0));
            State.refused("cls " + cls, RICH, x -> x.define(0, cls, 0, 0));
            State.refused("cls " + cls, RICH, x -> x.define(1, cls, -1, 0));
        }
        for (int side = 0; side < 2; side++) {
            Wire x = new Wire();
            Checks.yes("cls 0", x.define(side, 0, -1, 0));
            Checks.yes("cls 5", x.define(side, 5, -1, 0));
        }
    }

    private static void defineTwice() {
        Checks.sentence("define: false, and nothing changes, if .. cls is .. defined there already");
        for (int cls : new int[] {0, 1, 2, 4, 5}) {
            State.refused("class " + cls + " of side 0", RICH, x -> x.define(0, cls, -1, 7));
            State.refused("class " + cls + " of side 0, with a parent", RICH, x -> x.define(0, cls, 0, 7));
            State.refused("class " + cls + " of side 0, with itself as the parent", RICH, x -> x.define(0, cls, cls, 7));
        }
        for (int cls = 0; cls < 4; cls++) {
            int again = cls;
            State.refused("class " + cls + " of side 1", RICH, x -> x.define(1, again, -1, 7));
        }
        Wire x = new Wire();
        State.rich(x);
        Checks.yes("3 is defined on side 1 alone", x.define(0, 3, -1, 7));
        Checks.yes("4 is defined on side 0 alone", x.define(1, 4, -1, 7));
    }

    private static void defineWrongParent() {
        Checks.sentence("define: false, and nothing changes, if .. parent is not -1 and no defined class of the side");
        for (int parent : Checks.outside(-1, 5)) {
            State.refused("parent " + parent, NEW, x -> x.define(0, 0, parent, 0));
            State.refused("parent " + parent, RICH, x -> x.define(0, 3, parent, 0));
            State.refused("parent " + parent, RICH, x -> x.define(1, 4, parent, 0));
        }
        for (int parent = 0; parent < 6; parent++) {
            int above = parent;
            State.refused("parent " + parent + " while there is none", NEW, x -> x.define(0, 3, above, 0));
            State.refused("parent " + parent + " while there is none", NEW, x -> x.define(1, 3, above, 0));
        }
        State.refused("itself", RICH, x -> x.define(0, 3, 3, 0));
        State.refused("itself, defined on the other side", RICH, x -> x.define(1, 4, 4, 0));
        State.refused("defined on the other side", RICH, x -> x.define(1, 5, 4, 0));
        Wire x = new Wire();
        State.rich(x);
        Checks.yes("parent 0", x.define(1, 5, 0, 0));
        Checks.yes("parent 5", x.define(1, 4, 5, 0));
        Checks.yes("parent -1", x.define(0, 3, -1, 0));
    }

    private static void defineLongChain() {
        Checks.sentence("define: false, and nothing changes, if .. the chain would be longer than 3");
        State.refused("below 2, side 0", RICH, x -> x.define(0, 3, 2, 0));
        State.refused("below 5", RICH, x -> x.define(0, 3, 5, 0));
        State.refused("below 2, side 1", RICH, x -> x.define(1, 5, 2, 0));
        for (int side = 0; side < 2; side++) {
            Wire x = new Wire();
            State.rich(x);
            int free = side == 0 ? 3 : 5;
            Checks.no("4", x.define(side, free, 2, 0));
            Checks.yes("3", x.define(side, free, 1, 0));
        }
    }

    // ---- Promise 3 ----

    private static void fieldWrongSide() {
        Checks.sentence("field: false, and nothing changes, if side is not 0 or 1");
        for (int side : Checks.outside(0, 1)) {
            State.refused("side " + side, RICH, x -> x.field(side, 5, 7, INT));
            State.refused("side " + side, RICH, x -> x.field(side, 3, 7, INT));
            State.refused("side " + side, NEW, x -> x.field(side, 0, 0, INT));
        }
        Wire x = new Wire();
        State.rich(x);
        Checks.yes("side 0", x.field(0, 5, 7, INT));
        Checks.yes("side 1", x.field(1, 3, 7, INT));
    }

    private static void fieldWrongClass() {
        Checks.sentence("field: false, and nothing changes, if .. cls is not the class that was defined last on that side");
        for (int cls = 0; cls < 6; cls++) {
            int asked = cls;
            State.refused("none is defined", NEW, x -> x.field(0, asked, 7, INT));
            State.refused("none is defined", NEW, x -> x.field(1, asked, 7, INT));
            if (cls != 5) {
                State.refused("side 0, class " + cls, RICH, x -> x.field(0, asked, 8, INT));
                State.refused("without objects, class " + cls, ClassBoundaryTest::sixClasses, x -> x.field(0, asked, 8, INT));
            }
            if (cls != 3) {
                State.refused("side 1, class " + cls, RICH, x -> x.field(1, asked, 8, INT));
            }
        }
        for (int cls : Checks.outside(0, 5)) {
            State.refused("none is defined, cls " + cls, NEW, x -> x.field(0, cls, 7, INT));
            State.refused("none is defined, cls " + cls, NEW, x -> x.field(1, cls, 7, INT));
            State.refused("cls " + cls, RICH, x -> x.field(0, cls, 7, INT));
            State.refused("cls " + cls, RICH, x -> x.field(1, cls, 7, INT));
        }
        Wire x = new Wire();
        sixClasses(x);
        Checks.yes("the last", x.field(0, 5, 8, INT));
    }

    private static void sixClasses(Wire x) {
        for (int cls = 0; cls < 6; cls++) {
            x.define(0, cls, -1, 0);
        }
    }

    private static void fieldWrongName() {
        Checks.sentence("field: false, and nothing changes, if .. name is not 0 to 9");
        State.Use twoClasses = x -> {
            x.define(0, 0, -1, 0);
            x.define(1, 0, -1, 0);
        };
        for (int name : Checks.outside(0, 9)) {
            State.refused("name " + name, twoClasses, x -> x.field(0, 0, name, INT));
            State.refused("name " + name, twoClasses, x -> x.field(1, 0, name, REFERENCE));
            State.refused("name " + name, RICH, x -> x.field(0, 5, name, INT));
        }
        for (int side = 0; side < 2; side++) {
            Wire x = new Wire();
            twoClasses.on(x);
            Checks.yes("name 0", x.field(side, 0, 0, INT));
            Checks.yes("name 9", x.field(side, 0, 9, INT));
        }
    }

    private static void fieldWrongKind() {
        Checks.sentence("field: false, and nothing changes, if .. kind not 0 to 4");
        for (int kind : Checks.outside(0, 4)) {
            State.refused("kind " + kind, RICH, x -> x.field(0, 5, 7, kind));
            State.refused("kind " + kind, RICH, x -> x.field(1, 3, 0, kind));
        }
        Wire x = new Wire();
        State.rich(x);
        Checks.yes("kind 0", x.field(0, 5, 7, BYTE));
        Checks.yes("kind 4", x.field(0, 5, 8, REFERENCE));
    }

    private static void fieldNameOfTheChain() {
        Checks.sentence("field: false, and nothing changes, if .. a class of its chain has a field of that name");
        for (int kind = 0; kind < 5; kind++) {
            int asked = kind;
            State.refused("its own", RICH, x -> x.field(0, 5, 9, asked));
            State.refused("its parent's", RICH, x -> x.field(0, 5, 3, asked));
            State.refused("its parent's parent's", RICH, x -> x.field(0, 5, 0, asked));
        }
        Wire x = new Wire();
        State.rich(x);
        Checks.yes("of another class below its parent", x.field(0, 5, 4, REFERENCE));
        Checks.yes("of a class without a parent", x.field(0, 5, 7, SHORT));
        Checks.yes("of the other side", x.field(1, 3, 0, REFERENCE));
    }

    private static void fieldTheFifth() {
        Checks.sentence("field: false, and nothing changes, if .. it has 4 fields of its own");
        State.Use three = x -> {
            State.rich(x);
            x.field(0, 5, 4, REFERENCE);
            x.field(0, 5, 5, BYTE);
        };
        State.Use four = x -> {
            three.on(x);
            x.field(0, 5, 6, INT);
        };
        Wire x = new Wire();
        three.on(x);
        Checks.yes("the fourth, in a chain that has 7", x.field(0, 5, 6, INT));
        for (int name = 0; name < 10; name++) {
            int asked = name;
            State.refused("the fifth, name " + name, four, y -> y.field(0, 5, asked, INT));
        }
        State.differs("the fourth is there", three, four);
    }

    private static void fieldWithAnObject() {
        Checks.sentence("field: false, and nothing changes, if .. there is an object of the class");
        State.Use one = x -> {
            State.rich(x);
            x.make(0, 5);
            x.make(1, 3);
        };
        State.Use unpinned = x -> {
            one.on(x);
            x.pin(7, false);
            x.pin(38, false);
        };
        State.refused("side 0", one, x -> x.field(0, 5, 7, INT));
        State.refused("side 1", one, x -> x.field(1, 3, 7, INT));
        State.refused("not pinned, side 0", unpinned, x -> x.field(0, 5, 7, INT));
        State.refused("not pinned, side 1", unpinned, x -> x.field(1, 3, 7, INT));
        Wire x = new Wire();
        unpinned.on(x);
        x.collect(0);
        Checks.yes("it is gone", x.field(0, 5, 7, INT));
        Checks.no("that of side 1 is there", x.field(1, 3, 7, INT));
        x.collect(1);
        Checks.yes("it is gone too", x.field(1, 3, 7, INT));
        fieldWithOneOfEachNumber();
        fieldWithAnArrival();
    }

    private static void fieldWithOneOfEachNumber() {
        for (int s = 0; s < 2; s++) {
            int side = s;
            for (int n = 0; n < 16; n++) {
                int before = n;
                State.Use one = x -> {
                    x.define(side, 0, -1, 0);
                    for (int i = 0; i < before; i++) {
                        x.make(side, 0);
                    }
                    x.define(side, 1, -1, 0);
                    x.make(side, 1);
                };
                State.refused("number " + n + " of side " + side, one, x -> x.field(side, 1, 7, INT));
            }
        }
    }

    private static void fieldWithAnArrival() {
        State.Use arrived = x -> {
            x.define(0, 0, -1, 0);
            x.define(1, 0, -1, 0);
            x.make(0, 0);
            x.send(0, false);
        };
        State.refused("an object that arrived", arrived, x -> x.field(1, 0, 7, INT));
        Wire x = new Wire();
        x.define(0, 0, -1, 0);
        x.define(0, 1, -1, 0);
        x.field(0, 1, 0, REFERENCE);
        x.define(1, 1, -1, 0);
        x.make(0, 0);
        x.make(0, 1);
        x.link(1, 0, 0);
        Checks.is("one that arrived and was undone", x.send(1, false), GraphWire.NO_CLASS);
        Checks.yes("is none", x.field(1, 1, 7, INT));
        x.make(0, 1);
        Checks.yes("nor is one of the other side", x.field(1, 1, 8, INT));
    }
}
