// One method for each promise of the document: ordinary inputs, the edges that it names, and wrong inputs.
public final class PromiseTest {
    private static final int BYTE = 0;
    private static final int SHORT = 1;
    private static final int INT = 2;
    private static final int LONG = 3;
    private static final int REFERENCE = 4;
    private static final int[] WRONG_IDS = {-1, -2, -32, 15, 16, 31, 47, 48, 63, 64, 1000, Integer.MAX_VALUE, Integer.MIN_VALUE};

    private static int wrong = 0;
    private static int checks = 0;

    private static void is(String what, long got, long want) {
        checks++;
        if (got != want) {
            wrong++;
            System.out.println(what + ": answered " + got + ", due is " + want);
        }
    }

    private static void yes(String what, boolean got) {
        is(what, got ? 1 : 0, 1);
    }

    private static void no(String what, boolean got) {
        is(what, got ? 1 : 0, 0);
    }

    public static void main(String[] args) {
        newObject();
        define();
        field();
        make();
        set();
        link();
        pin();
        collect();
        collectSessions();
        sendKnown();
        sendShape();
        sendOrder();
        sendUnshared();
        sendBetweenDifferentClasses();
        sendSkippedFields();
        sendErrors();
        sendErrorOrder();
        sendFull();
        sendUndone();
        sendBothWays();
        reset();
        num();
        ref();
        look();
        sent();
        culprit();
        alike();
        alikeCycles();
        alikeAcrossClasses();
        orderAndLimits();
        System.out.println(wrong == 0 ? checks + " checks, all as due" : wrong + " of " + checks + " checks not as due");
        if (wrong != 0) {
            System.exit(1);
        }
    }

    /** Class 0 on both sides, version 1, with references 0 and 1 and the int 2. */
    private static Wire nodes() {
        Wire x = new Wire();
        for (int side = 0; side < 2; side++) {
            x.define(side, 0, -1, 1);
            x.field(side, 0, 0, REFERENCE);
            x.field(side, 0, 1, REFERENCE);
            x.field(side, 0, 2, INT);
        }
        return x;
    }

    private static void makeMany(Wire x, int side, int count) {
        for (int i = 0; i < count; i++) {
            x.make(side, 0);
        }
    }

    private static void newObject() {
        Wire x = new Wire();
        is("1: no culprit", x.culprit(), -1);
        for (int id = -1; id < 65; id++) {
            is("1: look " + id, x.look(id), -1);
            is("1: sent " + id, x.sent(id), -1);
        }
        for (int side = 0; side < 2; side++) {
            for (int cls = 0; cls < 6; cls++) {
                is("1: make", x.make(side, cls), GraphWire.BAD);
                no("1: field", x.field(side, cls, 0, 0));
            }
            is("1: collect", x.collect(side), 0);
        }
        Wire y = nodes();
        y.make(0, 0);
        is("1: objects of GraphWire are apart", x.look(0), -1);
        is("1: and their classes", x.make(0, 0), GraphWire.BAD);
    }

    private static void define() {
        Wire x = new Wire();
        no("2: side -1", x.define(-1, 0, -1, 0));
        no("2: side 2", x.define(2, 0, -1, 0));
        no("2: side max", x.define(Integer.MAX_VALUE, 0, -1, 0));
        no("2: side min", x.define(Integer.MIN_VALUE, 0, -1, 0));
        no("2: cls -1", x.define(0, -1, -1, 0));
        no("2: cls 6", x.define(0, 6, -1, 0));
        no("2: cls max", x.define(0, Integer.MAX_VALUE, -1, 0));
        no("2: cls min", x.define(0, Integer.MIN_VALUE, -1, 0));
        no("2: parent not defined", x.define(0, 0, 1, 0));
        no("2: parent is the class itself", x.define(0, 0, 0, 0));
        no("2: parent -2", x.define(0, 0, -2, 0));
        no("2: parent 6", x.define(0, 0, 6, 0));
        no("2: parent max", x.define(0, 0, Integer.MAX_VALUE, 0));
        is("2: nothing is defined yet", x.make(0, 0), GraphWire.BAD);
        yes("2: any version", x.define(0, 0, -1, Integer.MIN_VALUE));
        no("2: defined already", x.define(0, 0, -1, Integer.MIN_VALUE));
        is("2: side 1 has its own", x.make(1, 0), GraphWire.BAD);
        no("2: parent of the other side", x.define(1, 1, 0, 0));
        yes("2: class 5", x.define(0, 5, -1, 0));
        yes("2: chain of 2", x.define(0, 1, 0, 0));
        yes("2: chain of 3", x.define(0, 2, 1, 0));
        no("2: chain of 4", x.define(0, 3, 2, 0));
        yes("2: not defined by that", x.define(0, 3, 1, 0));
        no("2: another chain of 4", x.define(0, 4, 3, 0));
        is("2: still not defined", x.make(0, 4), GraphWire.BAD);
        no("2: field of a class refused", x.field(0, 4, 0, 0));
        yes("2: a refused define leaves the last class", x.field(0, 3, 0, 0));
        no("2: cls 6 is not class 0 of side 1", x.define(0, 6, -1, 0));
        yes("2: class 0 of side 1", x.define(1, 0, -1, 0));
        no("2: parent -2 of side 1 is not class 4 of side 0", x.define(1, 4, -2, 0));
        definedWithoutFields();
    }

    private static void definedWithoutFields() {
        Wire x = nodes();
        yes("2: a class beside another", x.define(0, 1, -1, 1));
        is("2: make", x.make(0, 1), 0);
        for (int name = 0; name < 10; name++) {
            no("2: no number field", x.set(0, name, 1));
            is("2: no reference field", x.ref(0, name), -2);
        }
    }

    private static void field() {
        Wire x = new Wire();
        no("3: no class yet", x.field(0, 0, 0, 0));
        no("3: cls -1 while none was defined", x.field(0, -1, 0, 0));
        x.define(0, 0, -1, 0);
        no("3: side -1", x.field(-1, 0, 0, 0));
        no("3: side 2", x.field(2, 0, 0, 0));
        no("3: other side", x.field(1, 0, 0, 0));
        no("3: cls 1", x.field(0, 1, 0, 0));
        no("3: cls -1", x.field(0, -1, 0, 0));
        no("3: cls 6", x.field(0, 6, 0, 0));
        no("3: cls max", x.field(0, Integer.MAX_VALUE, 0, 0));
        no("3: name -1", x.field(0, 0, -1, 0));
        no("3: name 10", x.field(0, 0, 10, 0));
        no("3: name max", x.field(0, 0, Integer.MAX_VALUE, 0));
        no("3: kind -1", x.field(0, 0, 0, -1));
        no("3: kind 5", x.field(0, 0, 0, 5));
        no("3: kind min", x.field(0, 0, 0, Integer.MIN_VALUE));
        yes("3: name 9, a reference", x.field(0, 0, 9, REFERENCE));
        no("3: the name again", x.field(0, 0, 9, REFERENCE));
        no("3: the name with another kind", x.field(0, 0, 9, BYTE));
        yes("3: name 0, a byte", x.field(0, 0, 0, BYTE));
        yes("3: third", x.field(0, 0, 1, INT));
        yes("3: fourth", x.field(0, 0, 2, LONG));
        no("3: fifth", x.field(0, 0, 3, LONG));
        x.define(0, 1, 0, 0);
        no("3: not the last class any more", x.field(0, 0, 3, 0));
        no("3: the parent's name", x.field(0, 1, 9, REFERENCE));
        yes("3: own count starts at 0", x.field(0, 1, 3, SHORT));
        x.define(0, 2, 1, 0);
        no("3: the parent's parent's name", x.field(0, 2, 9, REFERENCE));
        no("3: the parent's name, chain of 3", x.field(0, 2, 3, INT));
        yes("3: a name of none in the chain", x.field(0, 2, 4, INT));
        x.define(0, 3, 0, 0);
        yes("3: a name of a class that is not in the chain", x.field(0, 3, 4, REFERENCE));
        x.define(1, 5, -1, 0);
        yes("3: the last class is told for each side", x.field(0, 3, 5, INT));
        yes("3: side 1", x.field(1, 5, 0, INT));
        fieldWithObjects();
    }

    private static void fieldWithObjects() {
        Wire x = new Wire();
        x.define(0, 0, -1, 0);
        x.make(0, 0);
        no("3: an object of the class", x.field(0, 0, 0, 0));
        x.define(0, 1, 0, 0);
        yes("3: an object of the parent is none of the class", x.field(0, 1, 0, LONG));
        x.make(0, 1);
        no("3: an object of the class with a parent", x.field(0, 1, 1, 0));
        x.pin(1, false);
        no("3: not collected yet", x.field(0, 1, 1, 0));
        x.collect(0);
        yes("3: the object is gone", x.field(0, 1, 1, REFERENCE));
        is("3: make", x.make(0, 1), 1);
        is("3: a new field is null", x.ref(1, 1), -1);
        x.define(1, 1, -1, 0);
        x.make(0, 1);
        yes("3: objects of the other side's class do not count", x.field(1, 1, 0, LONG));
        is("3: an arrival", x.send(1, false), 0);
        no("3: an object that arrived counts", x.field(1, 1, 1, REFERENCE));
    }

    private static void make() {
        Wire x = nodes();
        is("4: side -1", x.make(-1, 0), GraphWire.BAD);
        is("4: side 2", x.make(2, 0), GraphWire.BAD);
        is("4: cls not defined", x.make(0, 1), GraphWire.BAD);
        is("4: cls -1", x.make(0, -1), GraphWire.BAD);
        is("4: cls -1 of side 1", x.make(1, -6), GraphWire.BAD);
        is("4: cls 6", x.make(0, 6), GraphWire.BAD);
        is("4: cls max", x.make(1, Integer.MAX_VALUE), GraphWire.BAD);
        for (int n = 0; n < 16; n++) {
            is("4: least number", x.make(0, 0), n);
            is("4: pinned", x.look(n), 8);
        }
        is("4: full", x.make(0, 0), GraphWire.FULL);
        is("4: the other side is not", x.make(1, 0), 0);
        is("4: ID of side 1", x.look(32), 8);
        x.set(3, 2, 77);
        x.link(3, 0, 3);
        x.pin(3, false);
        x.pin(7, false);
        is("4: two taken away", x.collect(0), 2);
        is("4: least free", x.make(0, 0), 3);
        is("4: next free", x.make(0, 0), 7);
        is("4: full again", x.make(0, 0), GraphWire.FULL);
        is("4: numbers are 0 at first", x.num(3, 2), 0);
        is("4: references are null at first", x.ref(3, 0), -1);
        is("4: pinned again", x.look(3), 8);
        is("4: not known", x.sent(3), -1);
    }

    private static Wire kinds() {
        Wire x = new Wire();
        x.define(0, 0, -1, 0);
        x.field(0, 0, 0, BYTE);
        x.field(0, 0, 9, REFERENCE);
        x.define(0, 1, 0, 0);
        x.field(0, 1, 1, SHORT);
        x.define(0, 2, 1, 0);
        x.field(0, 2, 2, INT);
        x.field(0, 2, 3, LONG);
        x.make(0, 2);
        return x;
    }

    private static void set() {
        Wire x = kinds();
        long[] values = {0, 1, -1, 127, 128, -128, -129, 255, 256, 32767, 32768, -32768, -32769, 65535, 65536,
            2147483647L, 2147483648L, -2147483648L, -2147483649L, 4294967295L, 4294967296L,
            Long.MAX_VALUE, Long.MIN_VALUE, 0x123456789abcdef0L, 0xfedcba9876543210L};
        for (long v : values) {
            yes("5: byte", x.set(0, 0, v));
            yes("5: short", x.set(0, 1, v));
            yes("5: int", x.set(0, 2, v));
            yes("5: long", x.set(0, 3, v));
            is("5: byte of " + v, x.num(0, 0), v << 56 >> 56);
            is("5: short of " + v, x.num(0, 1), v << 48 >> 48);
            is("5: int of " + v, x.num(0, 2), v << 32 >> 32);
            is("5: long of " + v, x.num(0, 3), v);
        }
        no("5: a reference field", x.set(0, 9, 0));
        is("5: it stays null", x.ref(0, 9), -1);
        no("5: no field of the name", x.set(0, 4, 0));
        no("5: name -1", x.set(0, -1, 0));
        no("5: name 10", x.set(0, 10, 0));
        no("5: name max", x.set(0, Integer.MAX_VALUE, 0));
        for (int id : WRONG_IDS) {
            no("5: no object " + id, x.set(id, 0, 5));
        }
        x.make(0, 0);
        yes("5: own class", x.set(1, 0, 5));
        no("5: a field of a class below", x.set(1, 1, 5));
        is("5: the other object keeps its value", x.num(0, 0), (byte) 0x10);
    }

    private static void link() {
        Wire x = nodes();
        makeMany(x, 0, 2);
        makeMany(x, 1, 3);
        yes("6: to another", x.link(0, 0, 1));
        is("6: it is there", x.ref(0, 0), 1);
        is("6: not in the other field", x.ref(0, 1), -1);
        yes("6: to itself", x.link(0, 1, 0));
        is("6: itself", x.ref(0, 1), 0);
        no("6: to the other side", x.link(0, 0, 32));
        no("6: to no object", x.link(0, 0, 2));
        no("6: to -2", x.link(0, 0, -2));
        no("6: to 16", x.link(0, 0, 16));
        no("6: to 48", x.link(0, 0, 48));
        no("6: to max", x.link(0, 0, Integer.MAX_VALUE));
        is("6: nothing changed", x.ref(0, 0), 1);
        yes("6: to null", x.link(0, 0, -1));
        is("6: null", x.ref(0, 0), -1);
        no("6: a number field", x.link(0, 2, 1));
        no("6: a number field to null", x.link(0, 2, -1));
        no("6: no field of the name", x.link(0, 3, 1));
        no("6: name -1", x.link(0, -1, 1));
        no("6: name 10", x.link(0, 10, 1));
        for (int id : WRONG_IDS) {
            no("6: no object " + id, x.link(id, 0, -1));
        }
        yes("6: side 1", x.link(32, 0, 34));
        is("6: side 1 answers IDs", x.ref(32, 0), 34);
        no("6: side 1 to side 0", x.link(32, 0, 0));
        is("6: still", x.ref(32, 0), 34);
    }

    private static void pin() {
        Wire x = nodes();
        makeMany(x, 0, 1);
        makeMany(x, 1, 1);
        yes("7: pinned already", x.pin(0, true));
        is("7: one pin", x.look(0), 8);
        yes("7: away", x.pin(0, false));
        is("7: no pin", x.look(0), 0);
        yes("7: away again", x.pin(0, false));
        is("7: no pin still", x.look(0), 0);
        is("7: the other object keeps its pin", x.look(32), 8);
        yes("7: on", x.pin(0, true));
        is("7: pinned", x.look(0), 8);
        is("7: and stays", x.collect(0), 0);
        for (int id : WRONG_IDS) {
            no("7: no object " + id, x.pin(id, true));
            is("7: and none is made " + id, x.look(id), -1);
        }
    }

    private static void collect() {
        Wire x = nodes();
        is("8: side -1", x.collect(-1), GraphWire.BAD);
        is("8: side 2", x.collect(2), GraphWire.BAD);
        is("8: side max", x.collect(Integer.MAX_VALUE), GraphWire.BAD);
        is("8: empty", x.collect(0), 0);
        makeMany(x, 0, 16);
        makeMany(x, 1, 16);
        for (int n = 0; n < 15; n++) {
            x.link(n + 1, n % 2, n);
            x.pin(n, false);
        }
        is("8: reached over 15 references", x.collect(0), 0);
        x.link(8, 1, -1);
        is("8: 0 to 7 are cut off", x.collect(0), 8);
        is("8: gone", x.look(7), -1);
        is("8: kept", x.look(8), 0);
        x.link(8, 0, 8);
        x.link(8, 1, 15);
        x.pin(15, false);
        is("8: a ring is not reached from itself", x.collect(0), 8);
        is("8: nothing is left", x.collect(0), 0);
        is("8: the other side has its own", x.collect(1), 0);
        for (int n = 0; n < 16; n++) {
            x.pin(32 + n, false);
        }
        is("8: all 16", x.collect(1), 16);
        is("8: free again", x.make(1, 0), 0);
    }

    private static void collectSessions() {
        Wire x = nodes();
        makeMany(x, 0, 3);
        x.link(0, 0, 1);
        x.send(0, false);
        x.link(0, 0, 2);
        for (int id : new int[] {0, 1, 2, 32, 33}) {
            x.pin(id, false);
        }
        is("8: firsts stay, and what they refer to", x.collect(0), 0);
        is("8: seconds stay", x.collect(1), 0);
        x.make(1, 0);
        x.send(34, false);
        x.pin(34, false);
        x.pin(3, false);
        is("8: seconds of the other session stay", x.collect(0), 0);
        is("8: firsts of the other session stay", x.collect(1), 0);
        x.reset(1);
        is("8: second that is free", x.collect(0), 1);
        is("8: first that is free", x.collect(1), 1);
        is("8: which of them, side 0", x.look(3), -1);
        is("8: which of them, side 1", x.look(34), -1);
        x.reset(0);
        is("8: all of side 0", x.collect(0), 3);
        is("8: all of side 1", x.collect(1), 2);
    }

    private static void sendKnown() {
        Wire x = nodes();
        for (int id : WRONG_IDS) {
            is("9: no object " + id, x.send(id, false), GraphWire.BAD);
            is("9: no object, unshared " + id, x.send(id, true), GraphWire.BAD);
        }
        makeMany(x, 0, 2);
        makeMany(x, 1, 3);
        x.set(0, 2, 5);
        x.link(0, 0, 1);
        is("9: arrives with the least number", x.send(0, false), 3);
        is("9: pinned", x.look(35), 8);
        is("9: what comes along is not", x.look(36), 0);
        is("9: a number", x.num(35, 2), 5);
        is("9: a reference", x.ref(35, 0), 36);
        is("9: null", x.ref(35, 1), -1);
        is("9: BAD still", x.send(2, false), GraphWire.BAD);
        is("9: BAD leaves the session", x.sent(0), 35);
        x.set(0, 2, 6);
        x.link(0, 1, 0);
        x.pin(35, false);
        is("9: known", x.send(0, false), 3);
        is("9: becomes pinned", x.look(35), 8);
        is("9: the value is not sent again", x.num(35, 2), 5);
        is("9: nor the reference", x.ref(35, 1), -1);
        is("9: nothing arrived", x.look(37), -1);
        is("9: known from before", x.send(1, false), 4);
        is("9: and pinned now", x.look(36), 8);
        x.make(0, 0);
        x.link(2, 0, 0);
        x.link(2, 1, 1);
        is("9: one that refers to known ones", x.send(2, false), 5);
        is("9: named", x.ref(37, 0), 35);
        is("9: named too", x.ref(37, 1), 36);
        is("9: no more arrived", x.look(38), -1);
    }

    private static void sendShape() {
        Wire x = nodes();
        makeMany(x, 0, 16);
        for (int n = 0; n < 16; n++) {
            x.link(n, 0, (n + 1) % 16);
            x.link(n, 1, n / 2);
            x.set(n, 2, n * 1000);
        }
        is("9: a whole side", x.send(5, false), 0);
        for (int n = 0; n < 16; n++) {
            int copy = 32 + (n + 11) % 16;
            is("9: pair", x.sent(n), copy);
            is("9: ring", x.ref(copy, 0), 32 + (n + 12) % 16);
            is("9: tree", x.ref(copy, 1), 32 + (n / 2 + 11) % 16);
            is("9: number", x.num(copy, 2), n * 1000);
            is("9: pin", x.look(copy), n == 5 ? 8 : 0);
        }
    }

    private static void sendOrder() {
        Wire x = new Wire();
        for (int side = 0; side < 2; side++) {
            x.define(side, 3, -1, 0);
            x.field(side, 3, 8, REFERENCE);
            x.field(side, 3, 7, REFERENCE);
            x.define(side, 0, 3, 0);
            x.field(side, 0, 5, REFERENCE);
            x.define(side, 1, 0, 0);
            x.field(side, 1, 2, REFERENCE);
            x.field(side, 1, 0, REFERENCE);
        }
        for (int n = 0; n < 8; n++) {
            x.make(0, 1);
        }
        x.link(0, 0, 1);
        x.link(0, 2, 2);
        x.link(0, 5, 3);
        x.link(0, 7, 4);
        x.link(0, 8, 5);
        x.link(4, 0, 6);
        x.link(6, 8, 5);
        is("9: order", x.send(0, false), 0);
        is("9: the topmost class first, names ascending", x.sent(4), 33);
        is("9: with all that belongs to it at once", x.sent(6), 34);
        is("9: and what that refers to", x.sent(5), 35);
        is("9: then the class below", x.sent(3), 36);
        is("9: then its own class", x.sent(1), 37);
        is("9: names ascending there", x.sent(2), 38);
        is("9: no other", x.sent(7), -1);
        is("9: one object for both", x.ref(32, 8), x.ref(34, 8));
    }

    private static void sendUnshared() {
        Wire x = nodes();
        makeMany(x, 0, 3);
        x.link(0, 0, 1);
        x.link(0, 1, 2);
        x.link(1, 0, 2);
        x.set(0, 2, 4);
        is("9: unshared", x.send(0, true), 0);
        is("9: its pair does not join", x.sent(0), -1);
        is("9: pairs of others join", x.sent(1), 33);
        is("9: and of what they refer to", x.sent(2), 34);
        is("9: shared inside", x.ref(32, 1), 34);
        is("9: pinned", x.look(32), 8);
        x.link(1, 1, 0);
        x.reset(0);
        is("9: referred to and not known", x.send(0, true), 3);
        is("9: arrives a second time, its pair joins", x.sent(0), 38);
        is("9: after the one that refers to it", x.sent(1), 36);
        is("9: that refers to the second", x.ref(36, 1), 38);
        is("9: which refers to it", x.ref(38, 0), 36);
        is("9: as the first does", x.ref(35, 0), 36);
        is("9: the first is pinned", x.look(35), 8);
        is("9: the second is not", x.look(38), 0);
        x.set(0, 2, 9);
        is("9: unshared, but known", x.send(0, true), 7);
        is("9: its pair stays", x.sent(0), 38);
        is("9: new value", x.num(39, 2), 9);
        is("9: the known keeps the old", x.num(38, 2), 4);
        is("9: refers to known ones", x.ref(39, 0), 36);
        is("9: not pinned by that", x.look(38), 0);
        is("9: sent as known then", x.send(0, false), 6);
        is("9: pinned by that", x.look(38), 8);
    }

    private static void sendBetweenDifferentClasses() {
        Wire x = new Wire();
        x.define(0, 0, -1, 7);
        x.field(0, 0, 0, INT);
        x.field(0, 0, 1, LONG);
        x.define(0, 1, 0, 8);
        x.field(0, 1, 2, BYTE);
        x.define(0, 2, 1, 9);
        x.field(0, 2, 3, SHORT);
        x.define(1, 1, -1, 8);
        x.field(1, 1, 2, BYTE);
        x.field(1, 1, 3, REFERENCE);
        x.define(1, 0, 1, 7);
        x.field(1, 0, 1, LONG);
        x.field(1, 0, 5, INT);
        x.define(1, 2, 0, 9);
        x.field(1, 2, 0, INT);
        x.make(0, 2);
        x.set(0, 0, 10);
        x.set(0, 1, 11);
        x.set(0, 2, 12);
        x.set(0, 3, 13);
        is("9: the chains are in another order", x.send(0, false), 0);
        is("9: class", x.look(32), 10);
        is("9: a field of the same class", x.num(32, 1), 11);
        is("9: another", x.num(32, 2), 12);
        is("9: a name in another class is another field", x.num(32, 0), 0);
        is("9: with another kind too", x.ref(32, 3), -1);
        is("9: a field that the sender lacks", x.num(32, 5), 0);
        x.make(0, 1);
        x.set(1, 0, 20);
        x.set(1, 2, 22);
        is("9: a parent that the other lacks", x.send(1, false), 1);
        is("9: its own field", x.num(33, 2), 22);
        is("9: no field", x.num(33, 0), 0);
        x.make(1, 2);
        x.set(34, 0, 30);
        x.set(34, 1, 31);
        x.set(34, 2, 32);
        x.set(34, 5, 35);
        is("9: the other way", x.send(34, false), 2);
        is("9: not of the same class", x.num(2, 0), 0);
        is("9: of the same class", x.num(2, 1), 31);
        is("9: and this", x.num(2, 2), 32);
    }

    private static void sendSkippedFields() {
        Wire x = new Wire();
        x.define(0, 0, -1, 0);
        x.field(0, 0, 0, REFERENCE);
        x.define(0, 1, 0, 0);
        x.field(0, 1, 1, REFERENCE);
        x.define(1, 1, -1, 0);
        x.field(1, 1, 0, REFERENCE);
        for (int n = 0; n < 4; n++) {
            x.make(0, 1);
        }
        x.link(0, 0, 1);
        x.link(0, 1, 2);
        x.link(1, 1, 3);
        is("9: fields that the other side lacks", x.send(0, false), 0);
        is("9: their objects arrive, parents' first", x.sent(1), 33);
        is("9: and theirs", x.sent(3), 34);
        is("9: then own ones", x.sent(2), 35);
        is("9: the value is not used", x.ref(32, 0), -1);
        is("9: nothing refers to them", x.ref(33, 0), -1);
        x.reset(0);
        is("9: so they are collected", x.collect(1), 3);
    }

    private static void sendErrors() {
        Wire x = new Wire();
        x.define(0, 0, -1, 1);
        x.make(0, 0);
        x.define(1, 1, -1, 1);
        is("9: NO_CLASS", x.send(0, false), GraphWire.NO_CLASS);
        is("9: NO_CLASS, unshared", x.send(0, true), GraphWire.NO_CLASS);
        x.define(1, 0, -1, 2);
        is("9: VERSION", x.send(0, false), GraphWire.VERSION);
        is("9: VERSION, unshared", x.send(0, true), GraphWire.VERSION);
        x.make(1, 0);
        is("9: VERSION, the other way", x.send(32, false), GraphWire.VERSION);
        x.define(0, 2, -1, 0);
        x.define(1, 2, -1, 0);
        for (int name = 0; name < 4; name++) {
            x.field(0, 2, name, name);
        }
        x.field(1, 2, 9, REFERENCE);
        x.make(0, 2);
        is("9: fields of one side alone are no matter", x.send(1, false), 1);
        for (int kind = 0; kind < 5; kind++) {
            for (int other = 0; other < 5; other++) {
                Wire y = new Wire();
                y.define(0, 0, -1, 0);
                y.define(1, 0, -1, 0);
                y.field(0, 0, 9, kind);
                y.field(1, 0, 9, other);
                y.make(0, 0);
                is("9: kinds " + kind + " and " + other, y.send(0, false), kind == other ? 0 : GraphWire.KIND);
            }
        }
        versionsOfParents();
    }

    private static void versionsOfParents() {
        Wire x = new Wire();
        x.define(0, 0, -1, 1);
        x.define(0, 1, 0, 1);
        x.define(0, 2, 1, 1);
        x.define(1, 0, -1, 2);
        x.define(1, 1, -1, 1);
        x.define(1, 2, 1, 1);
        x.define(0, 3, -1, 5);
        x.define(1, 3, 2, 5);
        x.make(0, 2);
        x.make(0, 3);
        is("9: a parent that is in one chain alone", x.send(0, false), 0);
        is("9: parents on the other side alone", x.send(1, false), 1);
        x.define(0, 4, 0, 1);
        x.define(1, 4, 0, 1);
        x.make(0, 4);
        is("9: the parent's version", x.send(2, false), GraphWire.VERSION);
    }

    /** Class 2 below 1 below 0 on side 0; side 1 has the same, but for the versions and the kinds that are asked for. */
    private static int sendAcross(int topVersion, int topKind, int midVersion, int midKind, int ownVersion, int ownKind) {
        Wire x = new Wire();
        for (int side = 0; side < 2; side++) {
            x.define(side, 0, -1, side * topVersion);
            x.field(side, 0, 0, side * topKind);
            x.define(side, 1, 0, side * midVersion);
            x.field(side, 1, 1, side * midKind);
            x.define(side, 2, 1, side * ownVersion);
            x.field(side, 2, 2, side * ownKind);
        }
        x.make(0, 2);
        return x.send(0, false);
    }

    private static void sendErrorOrder() {
        is("9: all the same", sendAcross(0, 0, 0, 0, 0, 0), 0);
        is("9: version of the topmost", sendAcross(1, 0, 0, 0, 0, 0), GraphWire.VERSION);
        is("9: version of the middle", sendAcross(0, 0, 1, 0, 0, 0), GraphWire.VERSION);
        is("9: version of its own", sendAcross(0, 0, 0, 0, 1, 0), GraphWire.VERSION);
        is("9: kind of the topmost", sendAcross(0, 1, 0, 0, 0, 0), GraphWire.KIND);
        is("9: kind of the middle", sendAcross(0, 0, 0, 1, 0, 0), GraphWire.KIND);
        is("9: kind of its own", sendAcross(0, 0, 0, 0, 0, 1), GraphWire.KIND);
        is("9: in a class its version first", sendAcross(0, 0, 0, 0, 1, 1), GraphWire.VERSION);
        is("9: the topmost's kind before the middle's version", sendAcross(0, 1, 1, 0, 0, 0), GraphWire.KIND);
        is("9: the middle's kind before its own version", sendAcross(0, 0, 0, 1, 1, 0), GraphWire.KIND);
        is("9: the topmost's version before the middle's kind", sendAcross(1, 0, 0, 1, 0, 0), GraphWire.VERSION);
        Wire x = new Wire();
        x.define(0, 0, -1, 0);
        x.field(0, 0, 0, INT);
        x.define(0, 1, 0, 0);
        x.define(1, 1, -1, 1);
        x.define(1, 0, 1, 0);
        x.field(1, 0, 0, LONG);
        x.make(0, 0);
        is("9: only the class itself is in both chains", x.send(0, false), GraphWire.KIND);
        Wire y = new Wire();
        y.define(0, 1, -1, 0);
        y.field(0, 1, 1, INT);
        y.define(0, 2, 1, 0);
        y.define(0, 0, 2, 0);
        y.define(1, 2, -1, 1);
        y.define(1, 1, 2, 0);
        y.field(1, 1, 1, LONG);
        y.define(1, 0, 1, 0);
        y.make(0, 0);
        y.make(1, 0);
        is("9: the order is that of the sender's chain", y.send(0, false), GraphWire.KIND);
        is("9: and so the other way", y.send(32, false), GraphWire.VERSION);
    }

    private static void sendFull() {
        Wire x = nodes();
        x.define(0, 1, -1, 0);
        x.define(0, 2, -1, 0);
        x.define(1, 2, -1, 1);
        x.define(0, 3, -1, 0);
        x.field(0, 3, 0, INT);
        x.define(1, 3, -1, 0);
        x.field(1, 3, 0, BYTE);
        makeMany(x, 1, 14);
        makeMany(x, 0, 3);
        x.make(0, 1);
        x.make(0, 2);
        x.make(0, 3);
        x.link(0, 0, 1);
        is("9: the last two numbers", x.send(0, false), 14);
        x.make(0, 0);
        is("9: FULL", x.send(2, false), GraphWire.FULL);
        is("9: culprit", x.culprit(), 2);
        is("9: the session is empty", x.sent(0), -1);
        is("9: the side keeps its objects", x.look(46), 8);
        is("9: NO_CLASS before FULL", x.send(3, false), GraphWire.NO_CLASS);
        is("9: VERSION before FULL", x.send(4, false), GraphWire.VERSION);
        is("9: KIND before FULL", x.send(5, false), GraphWire.KIND);
        is("9: FULL, unshared", x.send(0, true), GraphWire.FULL);
        x.pin(47, false);
        x.pin(46, false);
        is("9: two go", x.collect(1), 2);
        x.link(1, 1, 2);
        is("9: the third does not fit", x.send(0, false), GraphWire.FULL);
        is("9: it is the culprit", x.culprit(), 2);
        is("9: the first is undone", x.look(46), -1);
        is("9: and the second", x.look(47), -1);
        x.link(1, 1, -1);
        x.link(1, 0, 0);
        is("9: the second arrival of an unshared one does not fit", x.send(0, true), GraphWire.FULL);
        is("9: it is the culprit itself", x.culprit(), 0);
        is("9: shared it fits", x.send(0, false), 14);
        is("9: a known one is named on a full side", x.send(1, false), 15);
    }

    private static void sendUndone() {
        Wire x = nodes();
        x.define(0, 1, -1, 0);
        makeMany(x, 0, 4);
        x.make(0, 1);
        makeMany(x, 1, 1);
        is("9: before", x.send(0, false), 1);
        is("9: the other way before", x.send(32, false), 5);
        x.pin(33, false);
        x.link(1, 0, 2);
        x.link(1, 1, 4);
        x.link(2, 0, 0);
        is("9: an error inside", x.send(1, false), GraphWire.NO_CLASS);
        is("9: culprit inside", x.culprit(), 4);
        is("9: x is gone", x.look(34), -1);
        is("9: what came with it is gone", x.look(35), -1);
        is("9: what was there before stays, unpinned", x.look(33), 0);
        is("9: x is not known", x.sent(1), -1);
        is("9: nor what came with it", x.sent(2), -1);
        is("9: nor what was known before", x.sent(0), -1);
        is("9: the other session stays", x.sent(32), 5);
        is("9: references of the sender stay", x.ref(1, 1), 4);
        is("9: pins of the sender stay", x.look(1), 8);
        is("9: numbers are free again", x.make(1, 0), 2);
        is("9: what is in no pair now goes", x.collect(1), 1);
        is("9: that one", x.look(33), -1);
        is("9: known again", x.send(0, false), 1);
        is("9: an error of x itself", x.send(4, false), GraphWire.NO_CLASS);
        is("9: empties the session too", x.sent(0), -1);
        is("9: and again", x.send(0, false), 3);
        is("9: an unshared error", x.send(1, true), GraphWire.NO_CLASS);
        is("9: empties the session as well", x.sent(0), -1);
        is("9: and the object stays", x.look(35), 8);
    }

    private static void sendBothWays() {
        Wire x = nodes();
        makeMany(x, 0, 2);
        x.link(0, 0, 1);
        x.link(1, 0, 0);
        is("9: there", x.send(0, false), 0);
        is("9: and back, the sessions are two", x.send(32, false), 2);
        is("9: pair of the way back", x.sent(32), 2);
        is("9: and of what came along", x.sent(33), 3);
        is("9: pair of the way there", x.sent(0), 32);
        is("9: what came back is not known", x.sent(2), -1);
        is("9: it refers to what came back", x.ref(2, 0), 3);
        yes("9: all alike", x.alike(0, 2));
        is("9: and there again", x.send(2, false), 2);
    }

    private static void reset() {
        Wire x = nodes();
        makeMany(x, 0, 2);
        makeMany(x, 1, 1);
        x.link(0, 0, 1);
        x.send(0, false);
        x.send(32, false);
        no("10: side -1", x.reset(-1));
        no("10: side 2", x.reset(2));
        no("10: side max", x.reset(Integer.MAX_VALUE));
        no("10: side min", x.reset(Integer.MIN_VALUE));
        is("10: nothing changed", x.sent(0), 33);
        is("10: nor there", x.sent(32), 2);
        yes("10: side 0", x.reset(0));
        is("10: empty", x.sent(0), -1);
        is("10: all of it", x.sent(1), -1);
        is("10: the other session stays", x.sent(32), 2);
        is("10: the objects stay", x.look(33), 8);
        is("10: and their references", x.ref(33, 0), 34);
        yes("10: empty already", x.reset(0));
        yes("10: side 1", x.reset(1));
        is("10: empty too", x.sent(32), -1);
        is("10: it arrives anew", x.send(0, false), 3);
    }

    private static void num() {
        Wire x = kinds();
        x.set(0, 0, 100);
        x.set(0, 3, Long.MIN_VALUE);
        x.link(0, 9, 0);
        is("11: byte", x.num(0, 0), 100);
        is("11: not set", x.num(0, 2), 0);
        is("11: long", x.num(0, 3), Long.MIN_VALUE);
        is("11: a reference field", x.num(0, 9), 0);
        is("11: no field", x.num(0, 4), 0);
        is("11: name -1", x.num(0, -1), 0);
        is("11: name 10", x.num(0, 10), 0);
        is("11: name min", x.num(0, Integer.MIN_VALUE), 0);
        for (int id : WRONG_IDS) {
            is("11: no object " + id, x.num(id, 0), 0);
        }
        x.make(0, 0);
        x.set(1, 0, 7);
        is("11: name 10 of 0 is not name 0 of 1", x.num(0, 10), 0);
        is("11: name -10 of 1 is not name 0 of 0", x.num(1, -10), 0);
        x.pin(1, false);
        x.collect(0);
        is("11: an object that is gone", x.num(1, 0), 0);
    }

    private static void ref() {
        Wire x = nodes();
        makeMany(x, 0, 2);
        makeMany(x, 1, 2);
        x.link(0, 0, 1);
        x.link(32, 1, 33);
        is("12: an ID", x.ref(0, 0), 1);
        is("12: an ID of side 1", x.ref(32, 1), 33);
        is("12: null", x.ref(0, 1), -1);
        is("12: a number field", x.ref(0, 2), -2);
        is("12: no field", x.ref(0, 3), -2);
        is("12: name -1", x.ref(0, -1), -2);
        is("12: name 10", x.ref(0, 10), -2);
        is("12: name max", x.ref(0, Integer.MAX_VALUE), -2);
        is("12: an object that is not there", x.ref(2, 0), -2);
        for (int id : WRONG_IDS) {
            is("12: no object " + id, x.ref(id, 0), -2);
        }
    }

    private static void look() {
        Wire x = new Wire();
        for (int cls = 0; cls < 6; cls++) {
            x.define(0, cls, -1, 0);
            x.define(1, 5 - cls, -1, 0);
            x.make(0, cls);
            x.make(1, 5 - cls);
        }
        for (int n = 0; n < 6; n++) {
            is("13: pinned, side 0", x.look(n), 8 + n);
            is("13: pinned, side 1", x.look(32 + n), 8 + 5 - n);
            x.pin(n, false);
            is("13: not pinned", x.look(n), n);
        }
        for (int id : WRONG_IDS) {
            is("13: no object " + id, x.look(id), -1);
        }
        is("13: next number", x.look(6), -1);
        x.collect(0);
        is("13: gone", x.look(0), -1);
    }

    private static void sent() {
        Wire x = nodes();
        makeMany(x, 0, 2);
        makeMany(x, 1, 3);
        is("14: not known", x.sent(0), -1);
        x.send(1, false);
        is("14: an ID of side 1", x.sent(1), 35);
        is("14: not known still", x.sent(0), -1);
        is("14: a second is not known", x.sent(35), -1);
        x.send(34, false);
        is("14: an ID of side 0", x.sent(34), 2);
        for (int id : WRONG_IDS) {
            is("14: no object " + id, x.sent(id), -1);
        }
    }

    private static void culprit() {
        Wire x = nodes();
        x.define(1, 1, -1, 0);
        makeMany(x, 0, 1);
        makeMany(x, 1, 1);
        x.make(1, 1);
        is("15: none", x.culprit(), -1);
        x.send(0, false);
        x.send(20, false);
        x.make(0, 4);
        is("15: none still, BAD is none", x.culprit(), -1);
        x.send(33, false);
        is("15: an ID of side 1", x.culprit(), 33);
        x.send(0, false);
        x.send(-5, false);
        x.reset(0);
        x.reset(1);
        x.pin(33, false);
        x.collect(1);
        is("15: the latest stays, also when it is gone", x.culprit(), 33);
        makeMany(x, 0, 15);
        is("15: make answers FULL", x.make(0, 0), GraphWire.FULL);
        is("15: which is no culprit", x.culprit(), 33);
        x.send(32, false);
        is("15: FULL of send", x.culprit(), 32);
    }

    private static void alike() {
        Wire x = nodes();
        x.define(0, 1, -1, 0);
        makeMany(x, 0, 4);
        x.make(0, 1);
        x.make(0, 1);
        yes("16: the same", x.alike(0, 0));
        yes("16: two new ones", x.alike(0, 1));
        no("16: other classes", x.alike(0, 4));
        yes("16: without fields", x.alike(4, 5));
        for (int id : WRONG_IDS) {
            no("16: no first " + id, x.alike(id, 0));
            no("16: no second " + id, x.alike(0, id));
            no("16: neither " + id, x.alike(id, id));
        }
        x.set(0, 2, 1);
        no("16: numbers differ", x.alike(0, 1));
        x.set(1, 2, 1);
        yes("16: numbers are equal", x.alike(0, 1));
        x.pin(1, false);
        yes("16: pins are no matter", x.alike(0, 1));
        x.link(0, 1, 2);
        no("16: null and not", x.alike(0, 1));
        no("16: not and null", x.alike(1, 0));
        x.link(1, 1, 3);
        yes("16: references to alike ones", x.alike(0, 1));
        x.set(3, 2, 5);
        no("16: references to others", x.alike(0, 1));
        x.set(2, 2, 5);
        x.link(0, 0, 2);
        x.link(1, 0, 2);
        yes("16: shared or not is no matter", x.alike(0, 1));
        x.link(2, 0, 4);
        x.link(3, 0, 3);
        no("16: a difference of classes far off", x.alike(0, 1));
        x.link(3, 0, 5);
        yes("16: classes the same far off", x.alike(0, 1));
    }

    private static void alikeCycles() {
        Wire x = nodes();
        makeMany(x, 0, 16);
        makeMany(x, 1, 16);
        for (int n = 0; n < 16; n++) {
            x.link(n, 0, (n + 1) % 16);
            x.link(32 + n, 0, 32 + (n + 1) % 15);
        }
        yes("16: rings of 16 and 15", x.alike(3, 36));
        yes("16: a ring and itself turned", x.alike(3, 8));
        x.set(32 + 14, 2, 1);
        no("16: one of 15 differs", x.alike(3, 36));
        x.set(15, 2, 1);
        no("16: it comes after 15 or 16", x.alike(0, 32));
        yes("16: the same ring", x.alike(4, 4));
        no("16: a ring turned, with a mark", x.alike(4, 5));
        x.link(14, 0, 0);
        x.set(14, 2, 1);
        yes("16: rings of 15 with a mark", x.alike(0, 32));
        yes("16: and turned the other way round", x.alike(33, 1));
        no("16: turned apart", x.alike(0, 33));
    }

    private static void alikeAcrossClasses() {
        Wire x = new Wire();
        x.define(0, 0, -1, 1);
        x.field(0, 0, 0, BYTE);
        x.field(0, 0, 1, INT);
        x.define(0, 1, 0, 1);
        x.field(0, 1, 2, INT);
        x.field(0, 1, 3, REFERENCE);
        x.define(1, 0, -1, 2);
        x.field(1, 0, 0, LONG);
        x.define(1, 1, 0, 2);
        x.field(1, 1, 1, INT);
        x.field(1, 1, 2, INT);
        x.make(0, 1);
        x.make(1, 1);
        yes("16: versions are no matter", x.alike(0, 32));
        x.set(0, 0, -3);
        no("16: a parent's number", x.alike(0, 32));
        x.set(32, 0, -3);
        yes("16: numbers of other kinds", x.alike(0, 32));
        x.set(0, 1, 4);
        yes("16: a name in other classes is another field", x.alike(0, 32));
        x.link(0, 3, 0);
        yes("16: a field of one side alone", x.alike(0, 32));
        x.set(32, 2, 1);
        no("16: their own number", x.alike(0, 32));
        no("16: and the other way round", x.alike(32, 0));
        Wire y = new Wire();
        y.define(0, 0, -1, 0);
        y.field(0, 0, 0, INT);
        y.define(1, 0, -1, 0);
        y.field(1, 0, 0, REFERENCE);
        y.make(0, 0);
        y.make(1, 0);
        no("16: a number and null", y.alike(0, 32));
        no("16: null and a number", y.alike(32, 0));
        Wire z = new Wire();
        z.define(0, 0, -1, 0);
        z.field(0, 0, 0, INT);
        z.define(0, 1, 0, 0);
        z.define(1, 1, -1, 0);
        z.define(1, 0, 1, 0);
        z.field(1, 0, 0, INT);
        z.make(0, 1);
        z.make(1, 0);
        no("16: classes of one chain, but not of the same name", z.alike(0, 32));
        z.make(1, 1);
        yes("16: the parent is in one chain alone", z.alike(0, 33));
    }

    private static void orderAndLimits() {
        Wire x = nodes();
        makeMany(x, 0, 16);
        is("17: BAD class on a full side", x.make(0, 1), GraphWire.BAD);
        is("17: BAD class name on a full side", x.make(0, 6), GraphWire.BAD);
        is("17: FULL", x.make(0, 0), GraphWire.FULL);
        makeMany(x, 1, 16);
        is("17: BAD side when both are full", x.make(2, 0), GraphWire.BAD);
    }
}
