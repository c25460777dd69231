// The boundary cases of sending, sentence by sentence: the terms, and the promises 9, 10, 14 and 15.
public final class SendBoundaryTest {
    private static final int BYTE = Checks.BYTE;
    private static final int INT = Checks.INT;
    private static final int LONG = Checks.LONG;
    private static final int REFERENCE = Checks.REFERENCE;
    private static final int[] ERRORS = {GraphWire.NO_CLASS, GraphWire.VERSION, GraphWire.KIND, GraphWire.FULL};
    private static final State.Use NEW = x -> { };
    private static final State.Use RICH = State::rich;
    private static final int[] NO_OBJECTS = State.noObjectsOfRich();

    public static void main(String[] args) {
        emptyAtFirst();
        knownIsNamed();
        knownNothingArrives();
        otherwiseArrives();
        noClass();
        parentsFirst();
        versionsEqual();
        kindsTheSame();
        freeNumber();
        newObject();
        pairJoins();
        arrivesASecondTime();
        fieldsInOrder();
        fieldGetsTheValue();
        secondOfThePair();
        arrivesAtOnce();
        noSuchField();
        undone();
        undoneFull();
        undoneUnshared();
        answerAndCulprit();
        valuesNotSentAgain();
        sendBad();
        resetEmpties();
        resetWrongSide();
        sentSecond();
        sentNone();
        culpritLatest();
        culpritNone();
        Checks.finish();
    }

    // ---- the session ----

    private static void emptyAtFirst() {
        Checks.sentence("a set of pairs (object of the sending side, object of the other side), empty at first");
        Wire x = new Wire();
        Nodes.define(x);
        Nodes.make(x, 0, 16);
        Nodes.make(x, 1, 16);
        for (int n = 0; n < 16; n++) {
            Checks.is("side 0", x.sent(n), -1);
            Checks.is("side 1", x.sent(32 + n), -1);
            x.pin(n, false);
            x.pin(32 + n, false);
        }
        Checks.is("no pair keeps an object of side 0", x.collect(0), 16);
        Checks.is("nor of side 1", x.collect(1), 16);
    }

    private static void knownIsNamed() {
        Checks.sentence("An object is KNOWN if it is the first of a pair. (An object that is not known arrives, a known one is only named.)");
        Wire x = new Wire();
        Nodes.define(x);
        Nodes.make(x, 0, 1);
        Checks.is("arrives", x.send(0, false), 0);
        Checks.is("is known", x.sent(0), 32);
        Checks.is("the second of the pair is not", x.sent(32), -1);
        Checks.is("named", x.send(0, false), 0);
        Checks.is("the second arrives when it is sent", x.send(32, false), 1);
        Checks.is("and is known then", x.sent(32), 1);
        Checks.is("what arrived for it is not", x.sent(1), -1);
        Checks.is("the first has its own pair still", x.sent(0), 32);
        Nodes.make(x, 0, 1);
        x.link(2, 0, 0);
        x.link(2, 9, 1);
        Checks.is("refers to a known one and to one that is not", x.send(2, false), 1);
        Checks.is("named", x.ref(33, 0), 32);
        Checks.is("arrived", x.ref(33, 9), 34);
        Checks.is("no other arrived", x.look(35), -1);
    }

    private static void knownNothingArrives() {
        Checks.sentence("If x is known and the sending is not unshared: nothing arrives; the answer is the number of the second of its pair, "
            + "which becomes pinned.");
        State.Use pinned = x -> {
            State.rich(x);
            x.pin(34, true);
        };
        State.unchanged("pinned already", pinned, x -> x.send(0, false), 2);
        State.sameButCulprit("becomes pinned", pinned, x -> {
            State.rich(x);
            x.send(0, false);
        });
        State.unchanged("of side 1, pinned already", RICH, x -> x.send(32, false), 5);
        State.sameButCulprit("one that came along", x -> {
            State.rich(x);
            x.pin(35, true);
        }, x -> {
            State.rich(x);
            x.send(1, false);
        });
        Wire x = new Wire();
        ring0To1(x, 16);
        Checks.is("on a full side, the first", x.send(0, false), 0);
        Checks.is("on a full side, the last", x.send(15, false), 15);
        Checks.is("which becomes pinned", x.look(47), 8);
        Checks.is("the others are not", x.look(46), 0);
        knownRefersToAStranger();
    }

    private static void ring0To1(Wire x, int count) {
        Nodes.define(x);
        Nodes.ring(x, 0, count);
        x.send(0, false);
    }

    private static void knownRefersToAStranger() {
        Wire x = new Wire();
        Nodes.define(x);
        x.define(0, 1, -1, 0);
        Nodes.make(x, 0, 1);
        x.make(0, 1);
        x.send(0, false);
        x.link(0, 0, 1);
        Checks.is("it refers to one that could not arrive", x.send(0, false), 0);
        Checks.is("no error", x.culprit(), -1);
        Checks.is("still known", x.sent(0), 32);
        Checks.is("unshared that is an error", x.send(0, true), GraphWire.NO_CLASS);
    }

    private static void otherwiseArrives() {
        Checks.sentence("Otherwise x ARRIVES, and then the object that arrived for x becomes pinned, and its number is the answer.");
        for (int side = 0; side < 2; side++) {
            int here = 32 * side;
            int there = 32 - here;
            Wire x = new Wire();
            Nodes.define(x);
            Nodes.ring(x, side, 3);
            x.pin(here, false);
            Nodes.make(x, 1 - side, 4);
            Checks.is("not known", x.send(here, false), 4);
            Checks.is("pinned, whatever x is", x.look(there + 4), 8);
            Checks.is("what comes along is not", x.look(there + 5), 0);
            Checks.is("though its first is", x.look(there + 6), 0);
            Checks.is("x is pinned no more than before", x.look(here), 0);
            Checks.is("known, but unshared", x.send(here, true), 7);
            Checks.is("pinned", x.look(there + 7), 8);
            Checks.is("the next answer", x.send(here, true), 8);
        }
    }

    // ---- what must hold for an arrival ----

    private static void noClass() {
        Checks.sentence("The other side's class of the name of y's class must be defined: else NO_CLASS.");
        for (int side = 0; side < 2; side++) {
            for (int cls = 0; cls < 6; cls++) {
                Wire x = new Wire();
                for (int other = 0; other < 6; other++) {
                    x.define(side, other, -1, 0);
                    if (other != cls) {
                        x.define(1 - side, other, -1, 0);
                    }
                    x.make(side, other);
                }
                for (int other = 0; other < 6; other++) {
                    boolean there = other != cls;
                    int due = there ? other < cls ? other : other - 1 : GraphWire.NO_CLASS;
                    Checks.is("class " + other + " while " + cls + " is not there", x.send(32 * side + other, false), due);
                }
                Checks.yes("defined now", x.define(1 - side, cls, -1, 0));
                Checks.is("it arrives", x.send(32 * side + cls, false), 5);
            }
        }
        parentIsNotAskedFor();
    }

    private static void parentIsNotAskedFor() {
        Wire x = new Wire();
        x.define(0, 0, -1, 0);
        x.define(0, 1, 0, 0);
        x.define(0, 2, 1, 0);
        x.define(1, 2, -1, 0);
        x.make(0, 2);
        x.make(0, 1);
        Checks.is("its parents need not be defined there", x.send(0, false), 0);
        Checks.is("a class of its chain is not enough", x.send(1, false), GraphWire.NO_CLASS);
        x.make(1, 2);
        Checks.is("without the parents that it would have here", x.send(33, false), 2);
    }

    /** Class 2 below 1 below 0 on both sides; that of side 1 with these versions and kinds of their one field. */
    private static int across(int[] versions, int[] kinds) {
        Wire x = new Wire();
        for (int cls = 0; cls < 3; cls++) {
            x.define(0, cls, cls - 1, 0);
            x.field(0, cls, cls, BYTE);
            x.define(1, cls, cls - 1, versions[cls]);
            x.field(1, cls, cls, kinds[cls]);
        }
        x.make(0, 2);
        return x.send(0, false);
    }

    private static void parentsFirst() {
        Checks.sentence("The classes that are in the chains of both of these, by name, are gone through, those that come later in the chain of "
            + "y's class (the parents) first");
        for (int bits = 0; bits < 64; bits++) {
            int[] versions = {bits & 1, bits >> 1 & 1, bits >> 2 & 1};
            int[] kinds = {bits >> 3 & 1, bits >> 4 & 1, bits >> 5 & 1};
            int due = 0;
            for (int cls = 2; cls >= 0; cls--) {
                due = versions[cls] != 0 ? GraphWire.VERSION : kinds[cls] != 0 ? GraphWire.KIND : due;
            }
            Checks.is("differences " + Integer.toBinaryString(bits), across(versions, kinds), due);
        }
        orderOfTheSendersChain();
    }

    private static void orderOfTheSendersChain() {
        Wire x = new Wire();
        x.define(0, 0, -1, 0);
        x.field(0, 0, 0, INT);
        x.define(0, 1, 0, 0);
        x.define(0, 2, 1, 0);
        x.define(1, 1, -1, 7);
        x.define(1, 0, 1, 0);
        x.field(1, 0, 0, LONG);
        x.define(1, 2, 0, 0);
        x.make(0, 2);
        x.make(1, 2);
        Checks.is("0 comes later in the chain of side 0", x.send(0, false), GraphWire.KIND);
        Checks.is("1 comes later in the chain of side 1", x.send(32, false), GraphWire.VERSION);
    }

    private static void versionsEqual() {
        Checks.sentence("their versions must be equal: else VERSION");
        int[] none = {BYTE, BYTE, BYTE};
        Checks.is("all equal", across(new int[] {0, 0, 0}, none), 0);
        for (int version : new int[] {1, -1, 256, 65536, Integer.MIN_VALUE, Integer.MAX_VALUE}) {
            for (int cls = 0; cls < 3; cls++) {
                int[] versions = new int[3];
                versions[cls] = version;
                Checks.is("version " + version + " of class " + cls, across(versions, none), GraphWire.VERSION);
            }
        }
        Wire x = new Wire();
        x.define(0, 0, -1, 1);
        x.define(0, 1, 0, 1);
        x.define(1, 0, -1, 2);
        x.define(1, 1, -1, 1);
        x.define(0, 3, -1, 1);
        x.define(1, 3, 0, 1);
        x.make(0, 1);
        x.make(0, 3);
        x.make(0, 0);
        Checks.is("0 is in the chain of side 0 alone", x.send(0, false), 0);
        Checks.is("0 is in the chain of side 1 alone", x.send(1, false), 1);
        Checks.is("0 itself", x.send(2, false), GraphWire.VERSION);
    }

    private static void kindsTheSame() {
        Checks.sentence("then the fields that both of them have of their own, by name, must have the same kind: else KIND");
        for (int name = 0; name < 10; name++) {
            for (int kind = 0; kind < 5; kind++) {
                for (int other = 0; other < 5; other++) {
                    Wire x = new Wire();
                    x.define(0, 0, -1, 0);
                    x.define(1, 0, -1, 0);
                    x.field(0, 0, name, kind);
                    x.field(1, 0, name, other);
                    x.make(0, 0);
                    Checks.is("name " + name + ", kinds " + kind + " and " + other, x.send(0, false), kind == other ? 0 : GraphWire.KIND);
                }
            }
        }
        ownFieldsAlone();
    }

    private static void ownFieldsAlone() {
        Wire x = new Wire();
        x.define(0, 0, -1, 0);
        x.field(0, 0, 0, INT);
        x.define(0, 1, 0, 0);
        x.field(0, 1, 1, INT);
        x.define(1, 0, -1, 0);
        x.field(1, 0, 1, REFERENCE);
        x.define(1, 1, 0, 0);
        x.field(1, 1, 0, REFERENCE);
        x.make(0, 1);
        x.set(0, 0, 5);
        x.set(0, 1, 6);
        Checks.is("a name in different classes of the chains", x.send(0, false), 0);
        Checks.is("no value comes over", x.ref(32, 0), -1);
        Checks.is("nor here", x.ref(32, 1), -1);
        x.define(0, 2, -1, 0);
        x.define(1, 2, -1, 0);
        for (int name = 0; name < 4; name++) {
            x.field(0, 2, name, INT);
            x.field(1, 2, name + 4, REFERENCE);
        }
        x.make(0, 2);
        Checks.is("no name in common", x.send(1, false), 1);
        x.define(0, 3, -1, 0);
        x.define(1, 3, -1, 0);
        for (int name = 0; name < 4; name++) {
            x.field(0, 3, name, LONG);
            x.field(1, 3, name, name < 3 ? LONG : INT);
        }
        x.make(0, 3);
        Checks.is("the last of four", x.send(2, false), GraphWire.KIND);
    }

    private static void freeNumber() {
        Checks.sentence("There must be a free number on the other side: else FULL.");
        for (int side = 0; side < 2; side++) {
            int here = 32 * side;
            Wire x = new Wire();
            Nodes.define(x);
            Nodes.make(x, 1 - side, 15);
            Nodes.make(x, side, 2);
            Checks.is("one is free", x.send(here, false), 15);
            Checks.is("none is free", x.send(here + 1, false), GraphWire.FULL);
            Checks.is("nor unshared", x.send(here, true), GraphWire.FULL);
            x.pin(32 - here + 7, false);
            Checks.is("one that is not pinned is not free yet", x.send(here, false), GraphWire.FULL);
            x.collect(1 - side);
            Checks.is("one is free again", x.send(here, false), 7);
        }
        testedLast();
        exactlySixteen();
    }

    private static void testedLast() {
        Wire x = new Wire();
        Nodes.define(x);
        Nodes.make(x, 1, 16);
        x.define(0, 1, -1, 0);
        x.define(0, 2, -1, 0);
        x.define(1, 2, -1, 1);
        x.define(0, 3, -1, 0);
        x.field(0, 3, 0, INT);
        x.define(1, 3, -1, 0);
        x.field(1, 3, 0, LONG);
        for (int cls = 0; cls < 4; cls++) {
            x.make(0, cls);
        }
        Checks.is("FULL", x.send(0, false), GraphWire.FULL);
        Checks.is("NO_CLASS is tested before", x.send(1, false), GraphWire.NO_CLASS);
        Checks.is("VERSION is tested before", x.send(2, false), GraphWire.VERSION);
        Checks.is("KIND is tested before", x.send(3, false), GraphWire.KIND);
    }

    private static void exactlySixteen() {
        for (int there = 0; there < 3; there++) {
            for (int count = 14; count <= 16; count++) {
                Wire x = new Wire();
                Nodes.define(x);
                Nodes.make(x, 1, there);
                Nodes.ring(x, 0, count);
                boolean fits = there + count <= 16;
                Checks.is(count + " arrive to " + there, x.send(0, false), fits ? there : GraphWire.FULL);
                Checks.is("the last number", x.look(47), fits && there + count == 16 ? 0 : -1);
            }
        }
    }

    private static void newObject() {
        Checks.sentence("A new object, not pinned, of that class is made there, with the least free number.");
        Wire x = new Wire();
        Nodes.define(x);
        Nodes.make(x, 1, 16);
        Nodes.ring(x, 0, 4);
        for (int n : new int[] {0, 7, 14, 15}) {
            x.pin(32 + n, false);
        }
        x.collect(1);
        Checks.is("the least", x.send(2, false), 0);
        Checks.is("then the next", x.sent(3), 39);
        Checks.is("and the next", x.sent(0), 46);
        Checks.is("and the last", x.sent(1), 47);
        for (int id : new int[] {39, 46, 47}) {
            Checks.is("not pinned", x.look(id), 0);
        }
        for (int cls = 0; cls < 6; cls++) {
            Wire y = new Wire();
            y.define(0, cls, -1, 0);
            y.define(1, cls, -1, 0);
            y.make(0, cls);
            y.send(0, false);
            Checks.is("of that class", y.look(32), 8 + cls);
        }
    }

    // ---- pairs ----

    private static void pairJoins() {
        Checks.sentence("The pair (y, new object) joins the session, except at the first arrival of an unshared sending, that of x itself");
        Wire x = new Wire();
        Nodes.define(x);
        Nodes.ring(x, 0, 3);
        x.link(2, 9, -1);
        Checks.is("unshared", x.send(0, true), 0);
        Checks.is("x does not join", x.sent(0), -1);
        Checks.is("the next does", x.sent(1), 33);
        Checks.is("and the last", x.sent(2), 34);
        Checks.is("not unshared", x.send(0, false), 3);
        Checks.is("x joins", x.sent(0), 35);
        Checks.is("the known ones were named", x.ref(35, 9), 33);
        Checks.is("unshared and known", x.send(0, true), 4);
        Checks.is("the pair of x stays as it was", x.sent(0), 35);
        Checks.is("alone and unshared", x.send(2, true), 5);
        Checks.is("its pair stays too", x.sent(2), 34);
        x.reset(0);
        Checks.is("alone, unshared and not known", x.send(2, true), 6);
        Checks.is("no pair at all", x.sent(2), -1);
    }

    private static void arrivesASecondTime() {
        Checks.sentence("(if x is referred to and not known, it arrives a second time in this sending, and that pair joins)");
        Wire self = new Wire();
        Nodes.define(self);
        Nodes.ring(self, 0, 1);
        self.link(0, 0, 0);
        Checks.is("x refers to itself twice", self.send(0, true), 0);
        Checks.is("the second pair joins", self.sent(0), 33);
        Checks.is("the first refers to the second", self.ref(32, 0), 33);
        Checks.is("over both fields", self.ref(32, 9), 33);
        Checks.is("the second to itself", self.ref(33, 0), 33);
        Checks.is("it is pinned", self.look(32), 8);
        Checks.is("and the second not", self.look(33), 0);
        Checks.is("there is no third", self.look(34), -1);
        Checks.is("known now, it arrives once", self.send(0, true), 2);
        Checks.is("and no more", self.look(35), -1);
        Checks.is("it refers to the known one", self.ref(34, 0), 33);
        Wire full = new Wire();
        Nodes.define(full);
        Nodes.ring(full, 0, 15);
        Checks.is("15 arrive 16 times", full.send(0, true), 0);
        Checks.is("the last is x again", full.sent(0), 47);
        Wire over = new Wire();
        Nodes.define(over);
        Nodes.ring(over, 0, 16);
        Checks.is("16 can't arrive 17 times", over.send(0, true), GraphWire.FULL);
        Checks.is("x is the culprit", over.culprit(), 0);
        Checks.is("shared they arrive 16 times", over.send(0, false), 0);
    }

    // ---- fields ----

    private static void tenReferences(Wire x, int side) {
        for (int cls = 0; cls < 3; cls++) {
            x.define(side, cls, cls - 1, 0);
            for (int name = 9 - 4 * cls; name > 5 - 4 * cls && name >= 0; name--) {
                x.field(side, cls, name, REFERENCE);
            }
        }
    }

    private static void fieldsInOrder() {
        Checks.sentence("The fields of y are gone through: the classes of its chain, parents first, and in each of them its own fields by "
            + "ascending names.");
        Wire x = new Wire();
        tenReferences(x, 0);
        tenReferences(x, 1);
        for (int n = 0; n < 11; n++) {
            x.make(0, 2);
        }
        for (int name = 0; name < 10; name++) {
            Checks.yes("the chain has the name " + name, x.link(0, name, 1 + name));
        }
        x.send(0, false);
        int[] order = {6, 7, 8, 9, 2, 3, 4, 5, 0, 1};
        for (int i = 0; i < 10; i++) {
            Checks.is("the name that comes after " + i + " others", x.sent(1 + order[i]), 33 + i);
            Checks.is("and its value", x.ref(32, order[i]), 33 + i);
        }
    }

    private static void fieldGetsTheValue() {
        Checks.sentence("If the other side's chain has the class, and this has an own field of the name, the new object's field gets the value: "
            + "a number as it is; null");
        long[] low = {-128, -32768, Integer.MIN_VALUE, Long.MIN_VALUE};
        long[] high = {127, 32767, Integer.MAX_VALUE, Long.MAX_VALUE};
        for (int kind = BYTE; kind <= LONG; kind++) {
            Wire x = new Wire();
            for (int side = 0; side < 2; side++) {
                x.define(side, 0, -1, 0);
                x.field(side, 0, 0, kind);
                x.field(side, 0, 9, REFERENCE);
            }
            x.make(0, 0);
            for (long v : new long[] {low[kind], high[kind], 0, -1}) {
                x.set(0, 0, v);
                int n = x.send(0, true);
                Checks.is("kind " + kind + ", " + v, x.num(32 + n, 0), v);
                Checks.is("null", x.ref(32 + n, 9), -1);
            }
        }
        otherChains();
    }

    private static void otherChains() {
        Wire x = new Wire();
        for (int cls = 0; cls < 3; cls++) {
            x.define(0, cls, cls - 1, cls);
            x.field(0, cls, cls, INT);
            x.define(1, 2 - cls, cls == 0 ? -1 : 3 - cls, 2 - cls);
            x.field(1, 2 - cls, 2 - cls, INT);
        }
        for (int cls = 0; cls < 3; cls++) {
            x.make(0, cls);
            for (int name = 0; name <= cls; name++) {
                x.set(cls, name, 10 * cls + name + 1);
            }
        }
        Checks.is("chain 0 to chain 0, 1, 2", x.send(0, false), 0);
        Checks.is("what both have", x.num(32, 0), 1);
        Checks.is("what the sender lacks", x.num(32, 1), 0);
        Checks.is("what it lacks too", x.num(32, 2), 0);
        Checks.is("chain 1, 0 to chain 1, 2", x.send(1, false), 1);
        Checks.is("what both have", x.num(33, 1), 12);
        Checks.is("what the other lacks", x.num(33, 0), 0);
        Checks.is("chain 2, 1, 0 to chain 2", x.send(2, false), 2);
        Checks.is("what both have", x.num(34, 2), 23);
        Checks.is("what the other lacks", x.num(34, 1), 0);
        nameOfAnotherClass();
    }

    private static void nameOfAnotherClass() {
        Wire x = new Wire();
        for (int side = 0; side < 2; side++) {
            for (int cls = 0; cls < 3; cls++) {
                int other = side == 0 ? cls : (cls + 1) % 3;
                x.define(side, cls, cls - 1, 0);
                x.field(side, cls, other, LONG);
                x.field(side, cls, 4 + other, REFERENCE);
            }
            x.make(side, 2);
        }
        for (int name = 0; name < 3; name++) {
            x.set(0, name, 7 + name);
            x.link(0, 4 + name, 0);
        }
        Checks.is("all names, each in another class there", x.send(0, false), 1);
        for (int name = 0; name < 3; name++) {
            Checks.is("no number", x.num(33, name), 0);
            Checks.is("no reference", x.ref(33, 4 + name), -1);
        }
    }

    private static void secondOfThePair() {
        Checks.sentence("or for a reference to z the second of z's pair, if z is known by now");
        Wire x = new Wire();
        Nodes.define(x);
        Nodes.make(x, 0, 3);
        x.send(2, false);
        x.link(0, 0, 0);
        x.link(0, 9, 1);
        x.link(1, 0, 0);
        x.link(1, 9, 2);
        Checks.is("sent", x.send(0, false), 1);
        Checks.is("z is x itself, which has just joined", x.ref(33, 0), 33);
        Checks.is("z is x, seen from what came along", x.ref(34, 0), 33);
        Checks.is("z was known before", x.ref(34, 9), 32);
        Checks.is("nothing came twice", x.look(35), -1);
        Nodes.make(x, 0, 1);
        x.link(3, 0, 1);
        x.link(3, 9, 1);
        Checks.is("both refer to one", x.send(3, false), 3);
        Checks.is("it is one there", x.ref(35, 0), 34);
        Checks.is("and the same", x.ref(35, 9), 34);
    }

    private static void arrivesAtOnce() {
        Checks.sentence("if not, z arrives first (at once, with all that belongs to it), and the new object made for z is the value");
        Wire x = new Wire();
        Nodes.define(x);
        Nodes.make(x, 0, 7);
        x.link(0, 0, 1);
        x.link(0, 9, 2);
        x.link(1, 0, 3);
        x.link(1, 9, 4);
        x.link(3, 9, 5);
        x.link(5, 0, 2);
        Checks.is("sent", x.send(0, false), 0);
        int[] order = {0, 1, 3, 5, 2, 4};
        for (int i = 0; i < order.length; i++) {
            Checks.is("place of " + order[i], x.sent(order[i]), 32 + i);
        }
        Checks.is("a value", x.ref(32, 0), 33);
        Checks.is("a value that arrived further in", x.ref(32, 9), 36);
        Checks.is("a value after a branch", x.ref(33, 9), 37);
        Checks.is("what nothing refers to stays", x.sent(6), -1);
        Wire deep = new Wire();
        Nodes.define(deep);
        Nodes.ring(deep, 0, 16);
        deep.link(15, 9, -1);
        Checks.is("15 wait for the sixteenth", deep.send(0, false), 0);
        for (int n = 0; n < 15; n++) {
            Checks.is("each refers to the next", deep.ref(32 + n, 9), 33 + n);
        }
        Checks.is("the last to none", deep.ref(47, 9), -1);
    }

    private static void noSuchField() {
        Checks.sentence("If the other side has no such field, the value is not used; but an object z that is not known arrives all the same.");
        Wire x = new Wire();
        x.define(0, 0, -1, 0);
        x.field(0, 0, 0, REFERENCE);
        x.define(0, 1, 0, 0);
        x.field(0, 1, 1, REFERENCE);
        x.field(0, 1, 2, INT);
        x.define(1, 1, -1, 0);
        x.field(1, 1, 0, REFERENCE);
        for (int n = 0; n < 4; n++) {
            x.make(0, 1);
        }
        x.link(0, 0, 1);
        x.link(0, 1, 2);
        x.link(2, 1, 0);
        x.set(0, 2, 5);
        Checks.is("sent", x.send(0, false), 0);
        Checks.is("over a class that the other side's chain lacks", x.sent(1), 33);
        Checks.is("over a name that the class lacks", x.sent(2), 34);
        Checks.is("the name in another class gets no value", x.ref(32, 0), -1);
        Checks.is("there is no such field", x.ref(32, 1), -2);
        Checks.is("nor the number", x.num(32, 2), 0);
        Checks.is("known ones do not arrive", x.look(35), -1);
        x.link(3, 0, 0);
        Checks.is("a known one over such a field", x.send(3, false), 3);
        Checks.is("does not arrive", x.look(36), -1);
        noSuchFieldErrors();
    }

    private static void noSuchFieldErrors() {
        Wire x = new Wire();
        x.define(0, 0, -1, 0);
        x.field(0, 0, 0, REFERENCE);
        x.define(1, 0, -1, 0);
        x.define(0, 1, -1, 0);
        x.make(0, 0);
        x.make(0, 1);
        x.link(0, 0, 1);
        Checks.is("its arrival can be an error", x.send(0, false), GraphWire.NO_CLASS);
        Checks.is("and it is the culprit", x.culprit(), 1);
        x.link(0, 0, 0);
        Checks.is("x itself, known by now", x.send(0, false), 0);
        Checks.is("arrives once", x.look(33), -1);
        x.reset(0);
        Checks.is("x itself, unshared", x.send(0, true), 1);
        Checks.is("arrives a second time", x.sent(0), 34);
    }

    // ---- errors ----

    /**
     * Objects 2 to 2 + depth of a side, each of which refers to the next; the last of them can't arrive, for this error.
     * Both sessions have a pair from before: (0, 0 of the other side) and (1 of the other side, 1).
     */
    private static State.Use blocked(int side, int depth, int error) {
        int here = 32 * side;
        return x -> {
            Nodes.define(x);
            x.define(side, 1, -1, 0);
            x.define(side, 2, -1, 0);
            x.define(1 - side, 2, -1, 1);
            x.define(side, 3, -1, 0);
            x.field(side, 3, 0, INT);
            x.define(1 - side, 3, -1, 0);
            x.field(1 - side, 3, 0, LONG);
            Nodes.make(x, side, 1);
            x.send(here, false);
            Nodes.make(x, 1 - side, 1);
            x.send(33 - here, false);
            x.pin(32 - here, false);
            x.pin(here + 1, false);
            Nodes.make(x, side, depth);
            x.make(side, error == GraphWire.NO_CLASS ? 1 : error == GraphWire.VERSION ? 2 : error == GraphWire.KIND ? 3 : 0);
            for (int n = 2; n < 2 + depth; n++) {
                x.link(here + n, 0, here);
                x.link(here + n, 9, here + n + 1);
                x.set(here + n, 5, n);
            }
            Nodes.make(x, 1 - side, error == GraphWire.FULL ? 14 - depth : 0);
        };
    }

    private static void undone() {
        Checks.sentence("If one of the errors happens, the whole sending is undone: all objects that have arrived in it are gone, and the session "
            + "of this direction is empty; nothing else changes.");
        for (int s = 0; s < 2; s++) {
            int side = s;
            for (int depth : new int[] {0, 1, 2, 13}) {
                for (int error : ERRORS) {
                    State.Use before = blocked(side, depth, error);
                    for (boolean unshared : new boolean[] {false, true}) {
                        String what = "side " + side + ", " + depth + " arrived, error " + error + ", unshared " + unshared;
                        State.sameButCulprit(what, x -> {
                            before.on(x);
                            x.reset(side);
                        }, x -> {
                            before.on(x);
                            x.send(32 * side + 2, unshared);
                        });
                    }
                }
            }
        }
        undoneSeen();
    }

    private static void undoneSeen() {
        Wire x = new Wire();
        blocked(0, 3, GraphWire.VERSION).on(x);
        Checks.is("known before", x.sent(0), 32);
        Checks.is("the other session", x.sent(33), 1);
        Checks.is("the error", x.send(2, false), GraphWire.VERSION);
        for (int n = 0; n < 6; n++) {
            Checks.is("the session is empty", x.sent(n), -1);
        }
        Checks.is("the other session is not", x.sent(33), 1);
        for (int n = 2; n < 16; n++) {
            Checks.is("what arrived is gone", x.look(32 + n), -1);
        }
        Checks.is("what was there before is not", x.look(32), 0);
        Checks.is("nor this", x.look(33), 8);
        Checks.is("its number is free", x.make(1, 0), 2);
        Checks.is("a second of the empty session is kept no more", x.collect(1), 1);
        Checks.is("that one", x.look(32), -1);
    }

    private static void undoneFull() {
        Checks.sentence("all objects that have arrived in it are gone");
        undoneSixteen(0);
        undoneSixteen(1);
        undoneBranches();
    }

    private static void undoneSixteen(int side) {
        int here = 32 * side;
        Wire x = new Wire();
        Nodes.define(x);
        Nodes.ring(x, side, 16);
        Checks.is("16 arrived, the seventeenth did not", x.send(here, true), GraphWire.FULL);
        for (int n = 0; n < 16; n++) {
            Checks.is("gone", x.look(32 - here + n), -1);
            Checks.is("not known", x.sent(here + n), -1);
        }
        Checks.is("nothing is there to collect", x.collect(1 - side), 0);
        for (int n = 0; n < 16; n++) {
            Checks.is("all numbers are free", x.make(1 - side, 0), n);
        }
    }

    private static void undoneBranches() {
        Wire branches = new Wire();
        Nodes.define(branches);
        branches.define(0, 1, -1, 0);
        Nodes.make(branches, 0, 4);
        branches.make(0, 1);
        branches.link(0, 0, 1);
        branches.link(1, 0, 2);
        branches.link(1, 9, 3);
        branches.link(0, 9, 4);
        Checks.is("after a branch that was complete", branches.send(0, false), GraphWire.NO_CLASS);
        for (int n = 0; n < 5; n++) {
            Checks.is("gone", branches.look(32 + n), -1);
            Checks.is("not known", branches.sent(n), -1);
        }
    }

    private static void undoneUnshared() {
        Checks.sentence("the session of this direction is empty; nothing else changes");
        State.sameButCulprit("an error of an unshared and known one", x -> {
            State.rich(x);
            x.link(0, 6, 4);
            x.reset(0);
        }, x -> {
            State.rich(x);
            x.link(0, 6, 4);
            x.send(0, true);
        });
        State.sameButCulprit("the session was empty before", x -> {
            State.rich(x);
            x.reset(0);
        }, x -> {
            State.rich(x);
            x.reset(0);
            x.send(4, false);
        });
        State.differs("the session is not left as it was", RICH, x -> {
            State.rich(x);
            x.send(4, false);
        });
    }

    private static void answerAndCulprit() {
        Checks.sentence("The answer is the error, and CULPRIT is the ID of the object that was to arrive when it happened.");
        for (int side = 0; side < 2; side++) {
            for (int depth = 0; depth <= 13; depth++) {
                for (int error : ERRORS) {
                    for (boolean unshared : new boolean[] {false, true}) {
                        Wire x = new Wire();
                        blocked(side, depth, error).on(x);
                        Checks.is("error after " + depth, x.send(32 * side + 2, unshared), error);
                        Checks.is("culprit after " + depth, x.culprit(), 32 * side + 2 + depth);
                    }
                }
            }
        }
        Wire x = new Wire();
        Nodes.define(x);
        x.define(0, 1, -1, 0);
        x.define(0, 2, -1, 0);
        x.define(1, 2, -1, 3);
        Nodes.make(x, 0, 1);
        x.make(0, 2);
        x.make(0, 1);
        x.link(0, 0, 1);
        x.link(0, 9, 2);
        Checks.is("the first of two errors", x.send(0, false), GraphWire.VERSION);
        Checks.is("and its culprit", x.culprit(), 1);
    }

    private static void valuesNotSentAgain() {
        Checks.sentence("Values that change after an object has arrived are not sent again while it is known.");
        Wire x = new Wire();
        Nodes.define(x);
        x.define(0, 1, -1, 0);
        Nodes.make(x, 0, 3);
        x.make(0, 1);
        x.set(0, 5, 1);
        x.link(0, 0, 1);
        x.send(0, false);
        x.set(0, 5, 2);
        x.link(0, 0, 2);
        x.set(1, 5, 3);
        Checks.is("named", x.send(0, false), 0);
        Checks.is("the number stays", x.num(32, 5), 1);
        Checks.is("the reference stays", x.ref(32, 0), 33);
        Checks.is("what it refers to now did not arrive", x.sent(2), -1);
        x.link(2, 9, 0);
        x.link(2, 0, 1);
        x.send(2, false);
        Checks.is("named by another, the number stays", x.num(32, 5), 1);
        Checks.is("and that of what came along", x.num(33, 5), 0);
        Checks.is("an error, so that it is not known", x.send(3, false), GraphWire.NO_CLASS);
        Checks.is("it arrives again", x.send(0, false), 3);
        Checks.is("with the new number", x.num(35, 5), 2);
        Checks.is("what is there already stays", x.num(32, 5), 1);
        x.set(0, 5, 4);
        x.reset(0);
        int n = x.send(0, false);
        Checks.is("after a reset too", x.num(32 + n, 5), 4);
    }

    // ---- Promise 9 ----

    private static void sendBad() {
        Checks.sentence("send: BAD, and nothing changes, if there is no such object");
        for (int id : NO_OBJECTS) {
            State.unchanged("ID " + id, RICH, x -> x.send(id, false), GraphWire.BAD);
            State.unchanged("unshared, ID " + id, RICH, x -> x.send(id, true), GraphWire.BAD);
        }
        State.unchanged("none at all", NEW, x -> x.send(0, false), GraphWire.BAD);
        Wire x = new Wire();
        Nodes.define(x);
        Nodes.make(x, 0, 16);
        Nodes.make(x, 1, 16);
        Checks.is("no object, though it would be FULL", x.send(16, false), GraphWire.BAD);
        Checks.is("31", x.send(31, false), GraphWire.BAD);
        Checks.is("48", x.send(48, false), GraphWire.BAD);
        for (int id : new int[] {0, 15, 32, 47}) {
            Checks.is("there is " + id, x.send(id, false), GraphWire.FULL);
        }
        x.pin(0, false);
        x.collect(0);
        Checks.is("gone", x.send(0, false), GraphWire.BAD);
        Checks.is("and to its number", x.send(47, false), 0);
    }

    // ---- Promise 10 ----

    private static void resetEmpties() {
        Checks.sentence("Empties the session from this side to the other.");
        State.unchanged("a new object, side 0", NEW, x -> x.reset(0) ? 1 : 0, 1);
        State.unchanged("a new object, side 1", NEW, x -> x.reset(1) ? 1 : 0, 1);
        for (int s = 0; s < 2; s++) {
            int side = s;
            State.Use empty = x -> {
                State.rich(x);
                x.reset(side);
            };
            State.unchanged("empty already", empty, x -> x.reset(side) ? 1 : 0, 1);
            State.differs("not empty", RICH, empty);
        }
        Wire x = new Wire();
        ring0To1(x, 16);
        for (int n = 0; n < 16; n++) {
            x.send(32 + n, false);
            Checks.is("16 pairs", x.sent(n) >= 0 ? 1 : 0, 1);
        }
        Checks.yes("reset", x.reset(0));
        for (int n = 0; n < 16; n++) {
            Checks.is("no pair", x.sent(n), -1);
            Checks.is("the objects stay", x.look(32 + n), n == 0 ? 8 : 0);
            Checks.is("with what they refer to", x.ref(32 + n, 9), 32 + (n + 1) % 16);
        }
        Wire both = new Wire();
        State.rich(both);
        Checks.yes("side 1", both.reset(1));
        Checks.is("no pair from side 1", both.sent(32), -1);
        Checks.is("nor for what came along", both.sent(33), -1);
        Checks.is("that of side 0 stays", both.sent(2), 36);
        Checks.yes("side 0", both.reset(0));
        Checks.is("no pair from side 0", both.sent(2), -1);
    }

    private static void resetWrongSide() {
        Checks.sentence("reset: false if side is not 0 or 1");
        for (int side : Checks.outside(0, 1)) {
            State.refused("side " + side, RICH, x -> x.reset(side));
            State.refused("side " + side, NEW, x -> x.reset(side));
        }
    }

    // ---- Promise 14 ----

    private static void sentSecond() {
        Checks.sentence("The ID of the second of the object's pair in the session from its side to the other");
        State.unchanged("side 0", RICH, x -> x.sent(0), 34);
        State.unchanged("what came along", RICH, x -> x.sent(2), 36);
        State.unchanged("side 1", RICH, x -> x.sent(32), 5);
        State.unchanged("side 1, what came along", RICH, x -> x.sent(33), 6);
        for (int side = 0; side < 2; side++) {
            Wire x = new Wire();
            Nodes.define(x);
            Nodes.ring(x, side, 16);
            x.send(32 * side + 15, false);
            Checks.is("the first", x.sent(32 * side + 15), 32 - 32 * side);
            Checks.is("the last", x.sent(32 * side + 14), 47 - 32 * side);
        }
    }

    private static void sentNone() {
        Checks.sentence("sent: -1 if it is not known or there is no such object");
        for (int id : NO_OBJECTS) {
            State.unchanged("ID " + id, RICH, x -> x.sent(id), -1);
        }
        for (int id : new int[] {3, 4, 5, 6, 8, 9, 34, 35, 36, 37}) {
            State.unchanged("not known " + id, RICH, x -> x.sent(id), -1);
        }
        Wire x = new Wire();
        Nodes.define(x);
        Nodes.make(x, 0, 1);
        x.send(0, false);
        x.reset(0);
        Checks.is("known no more", x.sent(0), -1);
        x.pin(0, false);
        x.collect(0);
        Checks.is("gone", x.sent(0), -1);
        Nodes.make(x, 0, 1);
        Checks.is("another with its number", x.sent(0), -1);
    }

    // ---- Promise 15 ----

    private static void culpritLatest() {
        Checks.sentence("The culprit of the latest send() that answered NO_CLASS, VERSION, KIND or FULL");
        Wire x = new Wire();
        Nodes.define(x);
        x.define(0, 1, -1, 0);
        x.define(0, 2, -1, 0);
        x.define(1, 2, -1, 1);
        x.define(0, 3, -1, 0);
        x.field(0, 3, 0, INT);
        x.define(1, 3, -1, 0);
        x.field(1, 3, 0, LONG);
        for (int cls = 0; cls < 4; cls++) {
            x.make(0, cls);
        }
        x.make(1, 2);
        for (int round = 0; round < 2; round++) {
            Checks.is("NO_CLASS", x.send(1, false), GraphWire.NO_CLASS);
            Checks.is("its culprit", x.culprit(), 1);
            Checks.is("VERSION", x.send(2, false), GraphWire.VERSION);
            Checks.is("its culprit", x.culprit(), 2);
            Checks.is("VERSION of side 1", x.send(32, false), GraphWire.VERSION);
            Checks.is("its culprit", x.culprit(), 32);
            Checks.is("KIND", x.send(3, false), GraphWire.KIND);
            Checks.is("its culprit", x.culprit(), 3);
        }
        for (int n = 0; n < 15; n++) {
            x.make(1, 0);
        }
        Checks.is("FULL", x.send(0, false), GraphWire.FULL);
        Checks.is("its culprit", x.culprit(), 0);
        culpritStays();
    }

    private static void culpritStays() {
        State.unchanged("is asked", RICH, Wire::culprit, 4);
        Wire x = new Wire();
        State.rich(x);
        x.send(0, false);
        x.send(3, false);
        x.send(7, false);
        x.send(0, true);
        Checks.is("a send that succeeds, and one that is BAD", x.culprit(), 4);
        x.reset(0);
        x.reset(1);
        x.pin(4, false);
        x.collect(0);
        Checks.is("it is gone", x.look(4), -1);
        Checks.is("and still the culprit", x.culprit(), 4);
        for (int n = 0; n < 16; n++) {
            x.make(0, 0);
        }
        Checks.is("FULL of make", x.make(0, 0), GraphWire.FULL);
        Checks.is("BAD of make", x.make(0, 3), GraphWire.BAD);
        Checks.is("are none of send", x.culprit(), 4);
    }

    private static void culpritNone() {
        Checks.sentence("culprit: -1 if there was none");
        State.unchanged("a new object", NEW, Wire::culprit, -1);
        Wire x = new Wire();
        Nodes.define(x);
        Checks.is("BAD", x.send(0, false), GraphWire.BAD);
        Checks.is("is none", x.culprit(), -1);
        Nodes.make(x, 0, 16);
        x.make(0, 0);
        x.send(15, false);
        x.send(15, false);
        x.send(15, true);
        Checks.is("none yet", x.culprit(), -1);
        Nodes.make(x, 1, 14);
        Checks.is("FULL", x.send(15, true), GraphWire.FULL);
        Checks.is("now there is one", x.culprit(), 15);
    }
}
