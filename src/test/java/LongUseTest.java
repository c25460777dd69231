// LANGUAGE.md, rule 7: "No call may ever throw or fail to end, for any arguments in any state". Past the 512th call the
// document leaves the answers free, so none is looked at here; a throw ends the test, and a call that does not end, all.
public final class LongUseTest {
    private static final int OBJECTS = 40;
    private static final int CALLS = 50000;
    private static final int[] ODD = {-1, -2, -6, -10, -32, -33, 6, 10, 16, 31, 48, 64, 1 << 27, 1 << 30, Integer.MIN_VALUE, Integer.MAX_VALUE};

    private static long seed;

    private static int below(int bound) {
        seed = seed * 6364136223846793005L + 1442695040888963407L;
        return (int) ((seed >>> 33) % bound);
    }

    /** 0 to most, and seldom something else. */
    private static int about(int most) {
        return below(12) == 0 ? ODD[below(ODD.length)] : below(most + 1);
    }

    private static int id() {
        return below(12) == 0 ? about(47) : 32 * below(2) + below(16);
    }

    public static void main(String[] args) {
        for (int object = 0; object < OBJECTS; object++) {
            seed = object;
            GraphWire x = new GraphWire();
            defineClasses(x);
            for (int call = 0; call < CALLS; call++) {
                callAny(x);
            }
        }
        System.out.println(OBJECTS + " objects, " + CALLS + " calls each: none threw, all ended");
    }

    /** Nearly the same on both sides and rich in references, so that sendings go deep before they end or fail. */
    private static void defineClasses(GraphWire x) {
        for (int cls = 0; cls < 6; cls++) {
            for (int side = 0; side < 2; side++) {
                x.define(side, cls, cls % 3 == 0 ? -1 : cls - 1, below(40) / 39);
                for (int name = cls % 3; name < 10; name += 3) {
                    x.field(side, cls, name, name < 7 || below(40) == 0 ? 4 : name - 7);
                }
            }
        }
    }

    private static void callAny(GraphWire x) {
        switch (below(24)) {
            case 0: x.define(about(1), about(5), about(6) - 1, below(2)); break;
            case 1: x.field(about(1), about(5), about(9), about(4)); break;
            case 2: x.make(about(1), about(5)); break;
            case 3: x.set(id(), about(9), seed); break;
            case 4: case 5: case 6: x.link(id(), about(9), id()); break;
            case 7: x.link(id(), about(9), -1); break;
            case 8: case 9: case 10: case 11: x.pin(id(), below(9) == 0); break;
            case 12: case 13: x.collect(about(1)); break;
            case 14: case 15: x.send(id(), below(4) == 0); break;
            case 16: x.reset(about(1)); break;
            case 17: x.num(id(), about(9)); break;
            case 18: x.ref(id(), about(9)); break;
            case 19: x.look(id()); break;
            case 20: x.sent(id()); break;
            case 21: x.culprit(); break;
            default: x.alike(id(), id()); break;
        }
    }
}
