import java.util.ArrayList;
import java.util.HashMap;
import java.util.List;
import java.util.Map;

/**
 * Whether two ways to use an object lead to the same state, as far as any call can tell. Each probe asks a twin of its
 * own, since most of them change what they look at, and since an object is used for 512 calls alone.
 */
final class State {
    interface Use {
        void on(Wire x);
    }

    interface Call {
        long on(Wire x);
    }

    interface Refusal {
        boolean on(Wire x);
    }

    private interface Probe {
        void on(Wire x, List<Long> answers);
    }

    private static final long MANY_BITS = 0x8182838485868788L;
    private static final List<Probe> PROBES = probes();
    private static final Map<Use, List<Long>> KNOWN_ANSWERS = new HashMap<>();

    private State() {
    }

    /** The call answers so, and the state is then what it was. */
    static void unchanged(String what, Use before, Call call, long due) {
        Wire x = new Wire();
        before.on(x);
        Checks.is(what, call.on(x), due);
        List<Long> was = KNOWN_ANSWERS.computeIfAbsent(before, use -> answers(use, true));
        List<Long> now = answers(y -> {
            before.on(y);
            call.on(y);
        }, true);
        Checks.yes(what + ": nothing changes", was.equals(now));
    }

    static void refused(String what, Use before, Refusal call) {
        unchanged(what, before, x -> call.on(x) ? 1 : 0, 0);
    }

    /** Both uses lead to the same state, but for the culprit that they leave. */
    static void sameButCulprit(String what, Use one, Use other) {
        Checks.yes(what, answers(one, false).equals(answers(other, false)));
    }

    static void differs(String what, Use one, Use other) {
        Checks.no(what, answers(one, true).equals(answers(other, true)));
    }

    private static List<Long> answers(Use use, boolean withCulprit) {
        List<Long> answers = new ArrayList<>();
        for (Probe probe : PROBES) {
            Wire x = new Wire();
            use.on(x);
            probe.on(x, answers);
        }
        if (withCulprit) {
            Wire x = new Wire();
            use.on(x);
            answers.add((long) x.culprit());
        }
        return answers;
    }

    private static List<Probe> probes() {
        List<Probe> probes = new ArrayList<>();
        probes.add(State::strays);
        probes.add(State::likeness);
        probes.add(State::kept);
        for (int s = 0; s < 2; s++) {
            int side = s;
            probes.add((x, answers) -> objects(x, side, answers));
            probes.add((x, answers) -> fieldsOfClasses(x, side, answers));
            probes.add((x, answers) -> fieldsToAdd(x, side, answers));
            probes.add((x, answers) -> {
                clear(x);
                fieldsToAdd(x, side, answers);
            });
            probes.add((x, answers) -> versions(x, side, answers));
            probes.add((x, answers) -> freeNumbers(x, side, answers));
            probes.add((x, answers) -> sendings(x, side, answers));
            for (int p = -1; p < 6; p++) {
                int parent = p;
                probes.add((x, answers) -> classesToDefine(x, side, parent, answers));
            }
        }
        return probes;
    }

    private static void strays(Wire x, List<Long> answers) {
        for (int id = 16; id < 32; id++) {
            answers.add((long) x.look(id - 32));
            answers.add((long) x.look(id));
            answers.add((long) x.look(id + 32));
        }
    }

    private static void objects(Wire x, int side, List<Long> answers) {
        for (int id = 32 * side; id < 32 * side + 16; id++) {
            answers.add((long) x.look(id));
            answers.add((long) x.sent(id));
            for (int name = 0; name < 10; name++) {
                answers.add(x.num(id, name));
                answers.add((long) x.ref(id, name));
            }
        }
    }

    private static void likeness(Wire x, List<Long> answers) {
        for (int a = 0; a < 16; a++) {
            for (int b = 32; b < 48; b++) {
                answers.add(x.alike(a, b) ? 1L : 0L);
            }
        }
    }

    /** What pairs and references alone keep. */
    private static void kept(Wire x, List<Long> answers) {
        unpinAll(x);
        answers.add((long) x.collect(0));
        answers.add((long) x.collect(1));
        for (int n = 0; n < 16; n++) {
            answers.add((long) x.look(n));
            answers.add((long) x.look(32 + n));
        }
    }

    private static void unpinAll(Wire x) {
        for (int n = 0; n < 16; n++) {
            x.pin(n, false);
            x.pin(32 + n, false);
        }
    }

    private static void clear(Wire x) {
        unpinAll(x);
        x.reset(0);
        x.reset(1);
        x.collect(0);
        x.collect(1);
    }

    private static void fieldsOfClasses(Wire x, int side, List<Long> answers) {
        clear(x);
        for (int cls = 0; cls < 6; cls++) {
            int number = x.make(side, cls);
            answers.add((long) number);
            int id = 32 * side + number;
            for (int name = 0; name < 10 && number >= 0; name++) {
                answers.add(x.set(id, name, MANY_BITS) ? 1L : 0L);
                answers.add(x.num(id, name));
                answers.add((long) x.ref(id, name));
            }
        }
    }

    private static void fieldsToAdd(Wire x, int side, List<Long> answers) {
        for (int cls = 0; cls < 6; cls++) {
            for (int name = 0; name < 10; name++) {
                answers.add(x.field(side, cls, name, Checks.LONG) ? 1L : 0L);
            }
        }
    }

    private static void classesToDefine(Wire x, int side, int parent, List<Long> answers) {
        for (int cls = 5; cls >= 0; cls--) {
            answers.add(x.define(side, cls, parent, 0) ? 1L : 0L);
        }
    }

    /** A class that one side lacks is defined there with the version 5 more than its name. */
    private static void versions(Wire x, int side, List<Long> answers) {
        clear(x);
        for (int cls = 0; cls < 6; cls++) {
            x.define(0, cls, -1, cls + 5);
            x.define(1, cls, -1, cls + 5);
            int number = x.make(side, cls);
            int answer = x.send(32 * side + number, false);
            answers.add((long) answer);
            answers.add((long) (answer < GraphWire.BAD ? x.culprit() : -1));
        }
    }

    private static void freeNumbers(Wire x, int side, List<Long> answers) {
        for (int round = 0; round < 17; round++) {
            for (int cls = 0; cls < 6; cls++) {
                answers.add((long) x.make(side, cls));
            }
        }
    }

    private static void sendings(Wire x, int side, List<Long> answers) {
        for (int id = 32 * side; id < 32 * side + 16; id++) {
            answers.add((long) x.send(id, false));
            answers.add((long) x.sent(id));
        }
        for (int id = 32 * side; id < 32 * side + 16; id++) {
            answers.add((long) x.send(id, true));
            answers.add((long) x.sent(id));
        }
    }

    /** No object of the GraphWire that rich() leaves has one of these IDs. */
    static int[] noObjectsOfRich() {
        List<Integer> ids = new ArrayList<>();
        ids.add(7);
        for (int id = 10; id < 32; id++) {
            ids.add(id);
        }
        for (int id = 38; id < 48; id++) {
            ids.add(id);
        }
        for (int id : Checks.outside(0, 47)) {
            ids.add(id);
        }
        return ids.stream().mapToInt(id -> id).toArray();
    }

    /**
     * Something of everything. Classes 0, 1 below 0 and 2 below 1 on both sides; class 4 and, as the last, 5 below 1 on
     * side 0; class 3, as the last, on side 1. Objects 0 to 6, 8 and 9 (number 7 is free), and 32 to 37; 9 and 37 are
     * there to be collected. 0, 1 and 2 are known as 34, 35 and 36, and 32 and 33 as 5 and 6. The culprit is 4.
     */
    static void rich(Wire x) {
        for (int side = 0; side < 2; side++) {
            richClasses(x, side);
        }
        x.define(0, 4, -1, 9);
        x.field(0, 4, 0, Checks.REFERENCE);
        x.field(0, 4, 7, Checks.LONG);
        x.define(0, 5, 1, 10);
        x.field(0, 5, 9, Checks.LONG);
        x.define(1, 3, -1, 8);
        x.field(1, 3, 9, Checks.REFERENCE);
        for (int cls : new int[] {2, 1, 0, 2, 4}) {
            x.make(0, cls);
        }
        x.make(1, 2);
        x.make(1, 0);
        richValues(x);
        x.send(4, false);
        x.send(0, false);
        x.send(32, false);
        for (int i = 0; i < 3; i++) {
            x.make(0, 0);
        }
        x.make(1, 1);
        x.pin(7, false);
        x.collect(0);
        for (int id : new int[] {1, 2, 9, 33, 34, 37}) {
            x.pin(id, false);
        }
    }

    private static void richClasses(Wire x, int side) {
        x.define(side, 0, -1, 10);
        x.field(side, 0, 0, Checks.BYTE);
        x.field(side, 0, 1, Checks.REFERENCE);
        x.define(side, 1, 0, -11);
        x.field(side, 1, 2, Checks.SHORT);
        x.field(side, 1, 3, Checks.REFERENCE);
        x.define(side, 2, 1, 12);
        x.field(side, 2, 4, Checks.INT);
        x.field(side, 2, 5, Checks.LONG);
        x.field(side, 2, 6, Checks.REFERENCE);
    }

    private static void richValues(Wire x) {
        x.set(0, 0, -5);
        x.set(0, 2, 300);
        x.set(0, 4, 70000);
        x.set(0, 5, 1L << 40);
        x.link(0, 1, 1);
        x.link(0, 3, 2);
        x.link(0, 6, 0);
        x.link(1, 1, 2);
        x.set(1, 0, 7);
        x.set(2, 0, 100);
        x.link(3, 6, 0);
        x.link(4, 0, 4);
        x.set(4, 7, -1);
        x.set(32, 5, 9);
        x.link(32, 1, 33);
        x.link(33, 1, 32);
    }
}
