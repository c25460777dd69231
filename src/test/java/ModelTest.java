import java.util.ArrayList;
import java.util.Arrays;
import java.util.HashSet;
import java.util.LinkedHashMap;
import java.util.List;
import java.util.Map;
import java.util.Set;
import java.util.TreeMap;

// Runs of 512 calls, always the same ones, on GraphWire and on a model that follows the document's words: it recurs where
// they do and holds objects where they speak of objects, so that it shares no way of thinking with the program.
public final class ModelTest {
    private static final int RUNS = 12000;
    private static final int CALLS = 512;

    private static final class Cls {
        int name;
        Cls parent;
        int version;
        final TreeMap<Integer, Integer> own = new TreeMap<>();

        List<Cls> chain() {
            List<Cls> chain = new ArrayList<>();
            for (Cls c = this; c != null; c = c.parent) {
                chain.add(c);
            }
            return chain;
        }

        List<Cls> parentsFirst() {
            List<Cls> chain = new ArrayList<>();
            for (Cls c = this; c != null; c = c.parent) {
                chain.add(0, c);
            }
            return chain;
        }

        Cls inChain(int wanted) {
            for (Cls c : chain()) {
                if (c.name == wanted) {
                    return c;
                }
            }
            return null;
        }

        Integer kind(int field) {
            for (Cls c : chain()) {
                if (c.own.containsKey(field)) {
                    return c.own.get(field);
                }
            }
            return null;
        }
    }

    private static final class Obj {
        int id;
        Cls cls;
        boolean pinned;
        final Map<Integer, Long> numbers = new TreeMap<>();
        final Map<Integer, Obj> references = new TreeMap<>();

        long number(int field) {
            return numbers.getOrDefault(field, 0L);
        }
    }

    private static final class Undone extends Exception {
        private static final long serialVersionUID = 1L;
        final int error;
        final int culprit;

        Undone(int error, int culprit) {
            this.error = error;
            this.culprit = culprit;
        }
    }

    private static final class Model {
        final List<List<Cls>> classes = List.of(new ArrayList<>(), new ArrayList<>());
        final List<TreeMap<Integer, Obj>> objects = List.of(new TreeMap<>(), new TreeMap<>());
        final List<Map<Obj, Obj>> sessions = List.of(new LinkedHashMap<>(), new LinkedHashMap<>());
        int culprit = -1;

        static boolean isSide(int side) {
            return side == 0 || side == 1;
        }

        Cls cls(int side, int name) {
            for (Cls c : classes.get(side)) {
                if (c.name == name) {
                    return c;
                }
            }
            return null;
        }

        Obj obj(int id) {
            Obj found = objects.get(0).get(id);
            return found != null ? found : objects.get(1).get(id);
        }

        Integer kind(int id, int name) {
            Obj o = obj(id);
            return o == null ? null : o.cls.kind(name);
        }

        boolean define(int side, int name, int parent, int version) {
            if (!isSide(side) || name < 0 || name > 5 || cls(side, name) != null) {
                return false;
            }
            if (parent != -1 && (cls(side, parent) == null || cls(side, parent).chain().size() == 3)) {
                return false;
            }
            Cls made = new Cls();
            made.name = name;
            made.parent = parent == -1 ? null : cls(side, parent);
            made.version = version;
            classes.get(side).add(made);
            return true;
        }

        boolean field(int side, int name, int field, int kind) {
            if (!isSide(side) || classes.get(side).isEmpty()) {
                return false;
            }
            Cls last = classes.get(side).get(classes.get(side).size() - 1);
            if (last.name != name || field < 0 || field > 9 || kind < 0 || kind > 4) {
                return false;
            }
            if (last.kind(field) != null || last.own.size() == 4) {
                return false;
            }
            for (Obj o : objects.get(side).values()) {
                if (o.cls == last) {
                    return false;
                }
            }
            last.own.put(field, kind);
            return true;
        }

        int freeId(int side) {
            int id = 32 * side;
            while (objects.get(side).containsKey(id)) {
                id++;
            }
            return id;
        }

        Obj add(int side, Cls cls, boolean pinned) {
            Obj made = new Obj();
            made.id = freeId(side);
            made.cls = cls;
            made.pinned = pinned;
            objects.get(side).put(made.id, made);
            return made;
        }

        int make(int side, int name) {
            if (!isSide(side) || cls(side, name) == null) {
                return -1;
            }
            return objects.get(side).size() == 16 ? -5 : add(side, cls(side, name), true).id - 32 * side;
        }

        boolean set(int id, int name, long v) {
            Integer kind = kind(id, name);
            if (kind == null || kind == 4) {
                return false;
            }
            int cut = 64 - (8 << kind);
            obj(id).numbers.put(name, v << cut >> cut);
            return true;
        }

        boolean link(int id, int name, int target) {
            Integer kind = kind(id, name);
            if (kind == null || kind != 4) {
                return false;
            }
            if (target == -1) {
                obj(id).references.remove(name);
                return true;
            }
            Obj aim = objects.get(id < 32 ? 0 : 1).get(target);
            if (aim == null) {
                return false;
            }
            obj(id).references.put(name, aim);
            return true;
        }

        boolean pin(int id, boolean on) {
            if (obj(id) == null) {
                return false;
            }
            obj(id).pinned = on;
            return true;
        }

        void reach(Obj o, Set<Obj> reached) {
            if (reached.add(o)) {
                for (Obj next : o.references.values()) {
                    reach(next, reached);
                }
            }
        }

        int collect(int side) {
            if (!isSide(side)) {
                return -1;
            }
            Set<Obj> reached = new HashSet<>();
            for (Obj o : objects.get(side).values()) {
                boolean paired = false;
                for (Map<Obj, Obj> session : sessions) {
                    paired |= session.containsKey(o) || session.containsValue(o);
                }
                if (o.pinned || paired) {
                    reach(o, reached);
                }
            }
            int before = objects.get(side).size();
            objects.get(side).values().retainAll(reached);
            return before - objects.get(side).size();
        }

        Obj arrive(Obj y, boolean joins, int side, List<Obj> arrived) throws Undone {
            Cls there = cls(1 - side, y.cls.name);
            if (there == null) {
                throw new Undone(-2, y.id);
            }
            for (Cls mine : y.cls.parentsFirst()) {
                Cls other = there.inChain(mine.name);
                if (other != null && other.version != mine.version) {
                    throw new Undone(-3, y.id);
                }
                for (int name : mine.own.keySet()) {
                    if (other != null && other.own.containsKey(name) && !other.own.get(name).equals(mine.own.get(name))) {
                        throw new Undone(-4, y.id);
                    }
                }
            }
            if (objects.get(1 - side).size() == 16) {
                throw new Undone(-5, y.id);
            }
            Obj made = add(1 - side, there, false);
            arrived.add(made);
            if (joins) {
                sessions.get(side).put(y, made);
            }
            for (Cls mine : y.cls.parentsFirst()) {
                Cls other = there.inChain(mine.name);
                for (int name : mine.own.keySet()) {
                    boolean used = other != null && other.own.containsKey(name);
                    if (mine.own.get(name) != 4) {
                        if (used) {
                            made.numbers.put(name, y.number(name));
                        }
                        continue;
                    }
                    Obj z = y.references.get(name);
                    if (z == null) {
                        continue;
                    }
                    Obj value = sessions.get(side).get(z);
                    if (value == null) {
                        value = arrive(z, true, side, arrived);
                    }
                    if (used) {
                        made.references.put(name, value);
                    }
                }
            }
            return made;
        }

        int send(int id, boolean unshared) {
            Obj x = obj(id);
            if (x == null) {
                return -1;
            }
            int side = id < 32 ? 0 : 1;
            Obj answer = unshared ? null : sessions.get(side).get(x);
            if (answer == null) {
                List<Obj> arrived = new ArrayList<>();
                try {
                    answer = arrive(x, !unshared, side, arrived);
                } catch (Undone undone) {
                    objects.get(1 - side).values().removeAll(arrived);
                    sessions.get(side).clear();
                    culprit = undone.culprit;
                    return undone.error;
                }
            }
            answer.pinned = true;
            return answer.id - 32 * (1 - side);
        }

        boolean reset(int side) {
            if (!isSide(side)) {
                return false;
            }
            sessions.get(side).clear();
            return true;
        }

        long num(int id, int name) {
            Integer kind = kind(id, name);
            return kind == null || kind == 4 ? 0 : obj(id).number(name);
        }

        int ref(int id, int name) {
            Integer kind = kind(id, name);
            if (kind == null || kind != 4) {
                return -2;
            }
            Obj aim = obj(id).references.get(name);
            return aim == null ? -1 : aim.id;
        }

        int look(int id) {
            Obj o = obj(id);
            return o == null ? -1 : (o.pinned ? 8 : 0) + o.cls.name;
        }

        int sent(int id) {
            Obj o = obj(id);
            Obj second = o == null ? null : sessions.get(id < 32 ? 0 : 1).get(o);
            return second == null ? -1 : second.id;
        }

        /** The greatest relation: all pairs, less those that break the rule, until none does. */
        boolean alike(int a, int b) {
            if (obj(a) == null || obj(b) == null) {
                return false;
            }
            Set<List<Obj>> relation = new HashSet<>();
            for (Obj p : objects.get(a < 32 ? 0 : 1).values()) {
                for (Obj q : objects.get(b < 32 ? 0 : 1).values()) {
                    relation.add(List.of(p, q));
                }
            }
            boolean shrunk = true;
            while (shrunk) {
                Set<List<Obj>> left = new HashSet<>();
                for (List<Obj> pair : relation) {
                    if (holds(pair.get(0), pair.get(1), relation)) {
                        left.add(pair);
                    }
                }
                shrunk = left.size() < relation.size();
                relation = left;
            }
            return relation.contains(List.of(obj(a), obj(b)));
        }

        boolean holds(Obj p, Obj q, Set<List<Obj>> relation) {
            if (p.cls.name != q.cls.name) {
                return false;
            }
            for (Cls mine : p.cls.chain()) {
                Cls other = q.cls.inChain(mine.name);
                for (int name : mine.own.keySet()) {
                    if (other == null || !other.own.containsKey(name)) {
                        continue;
                    }
                    boolean numbers = mine.own.get(name) != 4 && other.own.get(name) != 4;
                    boolean references = mine.own.get(name) == 4 && other.own.get(name) == 4;
                    Obj z = p.references.get(name);
                    Obj w = q.references.get(name);
                    boolean fits = numbers && p.number(name) == q.number(name)
                        || references && z == null && w == null
                        || references && z != null && w != null && relation.contains(List.of(z, w));
                    if (!fits) {
                        return false;
                    }
                }
            }
            return true;
        }
    }

    // ---- the runs ----

    private static long seed;

    private static int below(int bound) {
        seed = seed * 6364136223846793005L + 1442695040888963407L;
        return (int) ((seed >>> 33) % bound);
    }

    /** Mostly within low to high, now and then just outside or far off. */
    private static int near(int low, int high) {
        int die = below(60);
        if (die == 0) {
            return low - 1;
        }
        if (die == 1) {
            return high + 1;
        }
        if (die == 2) {
            int[] far = {Integer.MIN_VALUE, Integer.MAX_VALUE, -2, -6, -10, -32, 16, 31, 48, 64, 1 << 30};
            return far[below(far.length)];
        }
        return low + below(high - low + 1);
    }

    private static int someId(Model m) {
        if (below(25) == 0) {
            return near(0, 47);
        }
        List<Integer> ids = new ArrayList<>(m.objects.get(0).keySet());
        ids.addAll(m.objects.get(1).keySet());
        return ids.isEmpty() ? near(0, 47) : ids.get(below(ids.size()));
    }

    private static int someIdOfSide(Model m, int id) {
        if (below(20) == 0) {
            return someId(m);
        }
        List<Integer> ids = new ArrayList<>(m.objects.get(id < 32 ? 0 : 1).keySet());
        return ids.isEmpty() ? -1 : ids.get(below(ids.size()));
    }

    private static int someField(Model m, int id, boolean reference) {
        List<Integer> names = new ArrayList<>();
        for (int name = 0; name < 10; name++) {
            Integer kind = m.kind(id, name);
            if (kind != null && (kind == 4) == reference) {
                names.add(name);
            }
        }
        return names.isEmpty() || below(20) == 0 ? near(0, 9) : names.get(below(names.size()));
    }

    private static long someNumber() {
        long[] numbers = {0, 1, 1, 2, -1, 127, 128, 255, 256, -129, 32768, -40000, 1L << 31, -1L << 31, 1L << 40, Long.MIN_VALUE, Long.MAX_VALUE};
        return numbers[below(numbers.length)];
    }

    private static GraphWire wire;
    private static Model model;
    private static final List<String> told = new ArrayList<>();
    private static final Map<String, Integer> met = new TreeMap<>();

    private static long bit(boolean b) {
        return b ? 1 : 0;
    }

    private static void due(String call, long got, long want) {
        told.add(call + " " + got);
        if (call.startsWith("send")) {
            met.merge("send " + Math.min(want, 0), 1, Integer::sum);
        } else if (call.startsWith("alike") || call.startsWith("field") || call.startsWith("define")) {
            met.merge(call.substring(0, call.indexOf('(')) + " " + want, 1, Integer::sum);
        }
        if (got != want) {
            for (String line : told) {
                System.out.println(line);
            }
            System.out.println("due is " + want);
            System.exit(1);
        }
    }

    private static void define(int side, int cls, int parent, int version) {
        due("define(" + side + ", " + cls + ", " + parent + ", " + version + ")",
            bit(wire.define(side, cls, parent, version)), bit(model.define(side, cls, parent, version)));
    }

    private static void field(int side, int cls, int name, int kind) {
        due("field(" + side + ", " + cls + ", " + name + ", " + kind + ")",
            bit(wire.field(side, cls, name, kind)), bit(model.field(side, cls, name, kind)));
    }

    /** Classes on both sides, alike but for a difference now and then: chance alone would let hardly any sending succeed. */
    private static void defineClasses() {
        int differs = 4 << below(5);
        int count = 1 + below(6);
        int[] order = {0, 1, 2, 3, 4, 5};
        for (int i = 0; i < count; i++) {
            int other = i + below(6 - i);
            int cls = order[other];
            order[other] = order[i];
            order[i] = cls;
            int parent = i == 0 || below(3) == 0 ? -1 : order[below(i)];
            int version = below(2);
            int fields = below(5);
            int[] names = new int[fields];
            int[] kinds = new int[fields];
            for (int f = 0; f < fields; f++) {
                names[f] = below(10);
                kinds[f] = below(2) == 0 ? 4 : below(5);
            }
            for (int side = 0; side < 2; side++) {
                if (below(2 * differs) == 0) {
                    continue;
                }
                define(side, cls, below(differs) == 0 ? near(-1, 5) : parent, below(3 * differs) == 0 ? 2 : version);
                for (int f = 0; f < fields; f++) {
                    if (below(differs) != 0) {
                        field(side, cls, below(2 * differs) == 0 ? near(0, 9) : names[f], kinds[f]);
                    }
                    if (below(3 * differs) == 0) {
                        field(side, cls, near(0, 9), near(0, 4));
                    }
                }
            }
        }
    }

    private static void callSomething(int sendWeight) {
        int id = someId(model);
        int name;
        int target;
        switch (below(22 + sendWeight)) {
            case 0:
                if (below(4) == 0) {
                    define(near(0, 1), near(0, 5), near(-1, 5), below(2));
                } else {
                    field(near(0, 1), near(0, 5), near(0, 9), near(0, 4));
                }
                break;
            case 1: case 2: case 3: {
                int side = near(0, 1);
                int cls = near(0, 5);
                due("make(" + side + ", " + cls + ")", wire.make(side, cls), model.make(side, cls));
                break;
            }
            case 4: case 5: {
                name = someField(model, id, below(10) == 0);
                long v = someNumber();
                due("set(" + id + ", " + name + ", " + v + ")", bit(wire.set(id, name, v)), bit(model.set(id, name, v)));
                break;
            }
            case 6: case 7: case 8: case 9: case 10: case 11:
                name = someField(model, id, below(20) != 0);
                target = below(8) == 0 ? -1 : someIdOfSide(model, id);
                due("link(" + id + ", " + name + ", " + target + ")", bit(wire.link(id, name, target)), bit(model.link(id, name, target)));
                break;
            case 12: {
                boolean on = below(3) == 0;
                due("pin(" + id + ", " + on + ")", bit(wire.pin(id, on)), bit(model.pin(id, on)));
                break;
            }
            case 13: {
                int side = near(0, 1);
                due("collect(" + side + ")", wire.collect(side), model.collect(side));
                break;
            }
            case 14:
                if (below(4) == 0) {
                    int side = near(0, 1);
                    due("reset(" + side + ")", bit(wire.reset(side)), bit(model.reset(side)));
                }
                break;
            case 15:
                name = someField(model, id, below(10) == 0);
                due("num(" + id + ", " + name + ")", wire.num(id, name), model.num(id, name));
                break;
            case 16:
                name = someField(model, id, below(10) != 0);
                due("ref(" + id + ", " + name + ")", wire.ref(id, name), model.ref(id, name));
                break;
            case 17:
                due("look(" + id + ")", wire.look(id), model.look(id));
                break;
            case 18:
                due("sent(" + id + ")", wire.sent(id), model.sent(id));
                break;
            case 19:
                due("culprit()", wire.culprit(), model.culprit);
                break;
            case 20: case 21:
                target = below(2) == 0 && model.sent(id) >= 0 ? model.sent(id) : someId(model);
                due("alike(" + id + ", " + target + ")", bit(wire.alike(id, target)), bit(model.alike(id, target)));
                break;
            default: {
                boolean unshared = below(4) == 0;
                due("send(" + id + ", " + unshared + ")", wire.send(id, unshared), model.send(id, unshared));
                break;
            }
        }
    }

    /** What is there in the end, as far as the calls that are left allow. */
    private static void lookAtAll() {
        for (int id = 0; id < 48; id++) {
            if (told.size() + 12 > CALLS) {
                return;
            }
            due("look(" + id + ")", wire.look(id), model.look(id));
            if (model.obj(id) == null) {
                continue;
            }
            due("sent(" + id + ")", wire.sent(id), model.sent(id));
            for (int name = 0; name < 10; name++) {
                Integer kind = model.kind(id, name);
                if (kind != null && kind == 4) {
                    due("ref(" + id + ", " + name + ")", wire.ref(id, name), model.ref(id, name));
                } else if (kind != null) {
                    due("num(" + id + ", " + name + ")", wire.num(id, name), model.num(id, name));
                }
            }
        }
    }

    public static void main(String[] args) {
        long calls = 0;
        for (int run = 0; run < RUNS; run++) {
            seed = run * 7919L + 17;
            wire = new GraphWire();
            model = new Model();
            told.clear();
            defineClasses();
            int sendWeight = 1 + below(4);
            int busy = 100 + below(300);
            for (int i = 0; i < busy && told.size() < CALLS; i++) {
                callSomething(sendWeight);
            }
            lookAtAll();
            calls += told.size();
        }
        System.out.println(calls + " calls as due; answers met: " + met);
        List<String> mustMeet = Arrays.asList("alike 0", "alike 1", "define 0", "define 1", "field 0", "field 1",
            "send 0", "send -1", "send -2", "send -3", "send -4", "send -5");
        for (String answer : mustMeet) {
            if (met.getOrDefault(answer, 0) < RUNS / 50) {
                System.out.println("the runs met too little of: " + answer);
                System.exit(1);
            }
        }
    }
}
