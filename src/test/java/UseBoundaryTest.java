// How long an object is used: every call answers as due up to the 512th.
public final class UseBoundaryTest {
    public static void main(String[] args) {
        Checks.sentence("An object is used for at most 512 calls after it has been made");
        last("define", x -> x.define(0, 3, 4, 0) ? 1 : 0, 1);
        last("define, refused", x -> x.define(0, 4, -1, 0) ? 1 : 0, 0);
        last("field", x -> x.field(0, 5, 7, 4) ? 1 : 0, 1);
        last("field, refused", x -> x.field(0, 5, 9, 4) ? 1 : 0, 0);
        last("make", x -> x.make(1, 1), 6);
        last("make, refused", x -> x.make(0, 3), GraphWire.BAD);
        last("set", x -> x.set(0, 4, 1) ? 1 : 0, 1);
        last("set, refused", x -> x.set(0, 3, 1) ? 1 : 0, 0);
        last("link", x -> x.link(0, 3, 8) ? 1 : 0, 1);
        last("link, refused", x -> x.link(0, 3, 32) ? 1 : 0, 0);
        last("pin", x -> x.pin(0, false) ? 1 : 0, 1);
        last("pin, refused", x -> x.pin(15, false) ? 1 : 0, 0);
        last("collect", x -> x.collect(1), 1);
        last("send", x -> x.send(3, false), 6);
        last("send, known", x -> x.send(0, false), 2);
        last("send, unshared", x -> x.send(0, true), 6);
        last("send, an error", x -> x.send(4, false), GraphWire.NO_CLASS);
        last("reset", x -> x.reset(1) ? 1 : 0, 1);
        last("num", x -> x.num(0, 5), 1L << 40);
        last("ref", x -> x.ref(34, 1), 35);
        last("look", x -> x.look(0), 10);
        last("sent", x -> x.sent(32), 5);
        last("culprit", Wire::culprit, 4);
        last("alike", x -> x.alike(0, 34) ? 1 : 0, 1);
        sendings();
        errors();
        Checks.finish();
    }

    /** 511 calls that leave what State.rich() tells, then this one. */
    private static void last(String what, State.Call call, long due) {
        Wire x = new Wire();
        State.rich(x);
        x.collect(0);
        while (x.calls() + 4 < Wire.MOST_CALLS) {
            Checks.is("before " + what, x.make(0, 1), 7);
            x.pin(7, false);
            Checks.is("before " + what, x.collect(0), 1);
        }
        while (x.calls() + 1 < Wire.MOST_CALLS) {
            Checks.yes("before " + what, x.pin(0, true));
        }
        Checks.is(what + ", the 512th call", call.on(x), due);
    }

    private static void sendings() {
        Wire x = new Wire();
        x.define(0, 0, -1, 0);
        x.define(1, 0, -1, 0);
        x.make(0, 0);
        while (x.calls() + 4 <= Wire.MOST_CALLS) {
            Checks.is("it arrives, however often", x.send(0, false), 0);
            x.reset(0);
            x.pin(32, false);
            Checks.is("and goes", x.collect(1), 1);
        }
    }

    private static void errors() {
        Wire x = new Wire();
        x.define(0, 0, -1, 0);
        x.make(0, 0);
        while (x.calls() + 2 <= Wire.MOST_CALLS) {
            Checks.is("an error, however often", x.send(0, x.calls() % 4 == 0), GraphWire.NO_CLASS);
            Checks.is("its culprit", x.culprit(), 0);
        }
    }
}
