/**
 * Two sides that hold objects and send them to each other; the promises are in the project's document.
 *
 * A class is held as a "type": 6 * side + class name. An object is held under its ID, and its field of a name under
 * 10 * ID + name, which is enough because no name comes twice in a chain.
 */
public final class GraphWire {
    public static final int BAD = -1;
    public static final int NO_CLASS = -2;
    public static final int VERSION = -3;
    public static final int KIND = -4;
    public static final int FULL = -5;

    private static final int FINE = 0;
    private static final int NONE = -1;

    private static final int SIDES = 2;
    private static final int CLASS_NAMES = 6;
    private static final int TYPES = 12;
    private static final int FIELD_NAMES = 10;
    private static final int OWN_FIELDS = 120;
    private static final int MOST_OWN_FIELDS = 4;
    private static final int LONGEST_CHAIN = 3;
    private static final int CHAIN_FIELDS = 30;

    private static final int BYTE = 0;
    private static final int SHORT = 1;
    private static final int INT = 2;
    private static final int REFERENCE = 4;

    private static final int OBJECTS = 16;
    private static final int ID_STEP = 32;
    private static final int IDS = 48;
    private static final int VALUES = 480;
    private static final int OBJECT_PAIRS = 256;

    // A sending takes at most 16 arrivals of 30 fields each, so some 530 steps.
    private static final int STEPS_ENOUGH = 1000000;

    private final boolean[] defined = new boolean[TYPES];
    private final int[] parentType = new int[TYPES];
    private final int[] versionOf = new int[TYPES];
    private final int[] ownKind = new int[OWN_FIELDS];
    private final int[] lastType = new int[SIDES];

    private final int[] typeOf = new int[IDS];
    private final boolean[] pinned = new boolean[IDS];
    private final long[] numberAt = new long[VALUES];
    private final int[] targetAt = new int[VALUES];

    // Both sessions: the second of the pair whose first is this ID.
    private final int[] secondOf = new int[IDS];
    private int latestCulprit = NONE;

    // The sending under way, under the IDs of the objects that arrived in it. Arrivals that wait for another one to
    // be complete are chained through resumeNext, in place of a recursion.
    private final int[] sourceOf = new int[IDS];
    private final int[] nextField = new int[IDS];
    private final int[] resumeNext = new int[IDS];
    private int arriving = NONE;

    // The collecting under way; the list has each object of the side at most once.
    private final boolean[] reached = new boolean[IDS];
    private final int[] reachedList = new int[OBJECTS];
    private int reachedCount = 0;

    // The relation that alike builds; references stay on a side, so 16 * 16 pairs are all there can be.
    private final boolean[] related = new boolean[OBJECT_PAIRS];
    private final int[] relatedLeft = new int[OBJECT_PAIRS];
    private final int[] relatedRight = new int[OBJECT_PAIRS];
    private int relatedCount = 0;

    public GraphWire() {
        for (int side = 0; side < SIDES; side++) {
            lastType[side] = NONE;
        }
        for (int i = 0; i < OWN_FIELDS; i++) {
            ownKind[i] = NONE;
        }
        for (int id = 0; id < IDS; id++) {
            typeOf[id] = NONE;
            secondOf[id] = NONE;
        }
    }

    public boolean define(int side, int cls, int parent, int version) {
        if (!isSide(side) || cls < 0 || cls >= CLASS_NAMES || isClass(side, cls)) {
            return false;
        }
        int above = NONE;
        if (parent != NONE) {
            if (!isClass(side, parent)) {
                return false;
            }
            above = side * CLASS_NAMES + parent;
            if (ancestor(above, LONGEST_CHAIN - 1) != NONE) {
                return false;
            }
        }
        int type = side * CLASS_NAMES + cls;
        defined[type] = true;
        parentType[type] = above;
        versionOf[type] = version;
        lastType[side] = type;
        return true;
    }

    public boolean field(int side, int cls, int name, int kind) {
        if (!isSide(side) || !isClass(side, cls) || !isFieldName(name) || kind < BYTE || kind > REFERENCE) {
            return false;
        }
        int type = side * CLASS_NAMES + cls;
        if (lastType[side] != type || kindInChain(type, name) != NONE) {
            return false;
        }
        if (countOwnFields(type) >= MOST_OWN_FIELDS || hasObjects(type)) {
            return false;
        }
        ownKind[type * FIELD_NAMES + name] = kind;
        return true;
    }

    public int make(int side, int cls) {
        if (!isSide(side) || !isClass(side, cls)) {
            return BAD;
        }
        int id = leastFree(side);
        if (id == NONE) {
            return FULL;
        }
        placeObject(id, side * CLASS_NAMES + cls);
        pinned[id] = true;
        return id % ID_STEP;
    }

    public boolean set(int id, int name, long v) {
        if (!hasNumber(id, name)) {
            return false;
        }
        int kind = kindInChain(typeOf[id], name);
        numberAt[id * FIELD_NAMES + name] = cutTo(kind, v);
        return true;
    }

    public boolean link(int id, int name, int target) {
        if (!hasReference(id, name)) {
            return false;
        }
        if (target != NONE && (!isObject(target) || target / ID_STEP != id / ID_STEP)) {
            return false;
        }
        targetAt[id * FIELD_NAMES + name] = target;
        return true;
    }

    public boolean pin(int id, boolean on) {
        if (!isObject(id)) {
            return false;
        }
        pinned[id] = on;
        return true;
    }

    public int collect(int side) {
        if (!isSide(side)) {
            return BAD;
        }
        reachRoots(side);
        for (int i = 0; i < OBJECTS && i < reachedCount; i++) {
            reachTargets(reachedList[i]);
        }
        return dropUnreached(side);
    }

    public int send(int id, boolean unshared) {
        if (!isObject(id)) {
            return BAD;
        }
        if (!unshared && secondOf[id] != NONE) {
            pinned[secondOf[id]] = true;
            return secondOf[id] % ID_STEP;
        }
        startSending();
        int problem = arrive(id, !unshared);
        int arrived = arriving;
        for (int step = 0; step < STEPS_ENOUGH && problem == FINE && arriving != NONE; step++) {
            problem = fillNextField(arriving);
        }
        if (problem != FINE) {
            undoSending(id / ID_STEP);
            return problem;
        }
        pinned[arrived] = true;
        return arrived % ID_STEP;
    }

    public boolean reset(int side) {
        if (!isSide(side)) {
            return false;
        }
        emptySession(side);
        return true;
    }

    public long num(int id, int name) {
        return hasNumber(id, name) ? numberAt[id * FIELD_NAMES + name] : 0L;
    }

    public int ref(int id, int name) {
        return hasReference(id, name) ? targetAt[id * FIELD_NAMES + name] : -2;
    }

    public int look(int id) {
        if (!isObject(id)) {
            return -1;
        }
        return (pinned[id] ? 8 : 0) + typeOf[id] % CLASS_NAMES;
    }

    public int sent(int id) {
        return isObject(id) ? secondOf[id] : -1;
    }

    public int culprit() {
        return latestCulprit;
    }

    public boolean alike(int a, int b) {
        if (!isObject(a) || !isObject(b)) {
            return false;
        }
        for (int i = 0; i < OBJECT_PAIRS; i++) {
            related[i] = false;
        }
        relatedCount = 0;
        relate(a, b);
        for (int i = 0; i < OBJECT_PAIRS && i < relatedCount; i++) {
            if (!agree(relatedLeft[i], relatedRight[i])) {
                return false;
            }
        }
        return true;
    }

    // ---- what there is ----

    private boolean isSide(int side) {
        return side >= 0 && side < SIDES;
    }

    private boolean isClass(int side, int cls) {
        return cls >= 0 && cls < CLASS_NAMES && defined[side * CLASS_NAMES + cls];
    }

    private boolean isFieldName(int name) {
        return name >= 0 && name < FIELD_NAMES;
    }

    private boolean isObject(int id) {
        return id >= 0 && id < IDS && typeOf[id] != NONE;
    }

    private boolean hasNumber(int id, int name) {
        if (!isObject(id) || !isFieldName(name)) {
            return false;
        }
        int kind = kindInChain(typeOf[id], name);
        return kind != NONE && kind != REFERENCE;
    }

    private boolean hasReference(int id, int name) {
        return isObject(id) && isFieldName(name) && kindInChain(typeOf[id], name) == REFERENCE;
    }

    // ---- classes ----

    private int ancestor(int type, int generations) {
        int at = type;
        for (int i = 0; i < generations && at != NONE; i++) {
            at = parentType[at];
        }
        return at;
    }

    /** The class of the chain of type that has the same name as wanted, which may be of the other side. */
    private int namesake(int type, int wanted) {
        int at = type;
        for (int i = 0; i < LONGEST_CHAIN && at != NONE; i++) {
            if (at % CLASS_NAMES == wanted % CLASS_NAMES) {
                return at;
            }
            at = parentType[at];
        }
        return NONE;
    }

    private int kindInChain(int type, int name) {
        int at = type;
        for (int i = 0; i < LONGEST_CHAIN && at != NONE; i++) {
            int kind = ownKind[at * FIELD_NAMES + name];
            if (kind != NONE) {
                return kind;
            }
            at = parentType[at];
        }
        return NONE;
    }

    private int countOwnFields(int type) {
        int count = 0;
        for (int name = 0; name < FIELD_NAMES; name++) {
            if (ownKind[type * FIELD_NAMES + name] != NONE) {
                count++;
            }
        }
        return count;
    }

    private boolean hasObjects(int type) {
        for (int id = 0; id < IDS; id++) {
            if (typeOf[id] == type) {
                return true;
            }
        }
        return false;
    }

    // ---- objects ----

    private int leastFree(int side) {
        for (int n = 0; n < OBJECTS; n++) {
            if (typeOf[side * ID_STEP + n] == NONE) {
                return side * ID_STEP + n;
            }
        }
        return NONE;
    }

    private void placeObject(int id, int type) {
        typeOf[id] = type;
        pinned[id] = false;
        secondOf[id] = NONE;
        for (int name = 0; name < FIELD_NAMES; name++) {
            numberAt[id * FIELD_NAMES + name] = 0L;
            targetAt[id * FIELD_NAMES + name] = NONE;
        }
    }

    private long cutTo(int kind, long v) {
        if (kind == BYTE) {
            return (byte) v;
        }
        if (kind == SHORT) {
            return (short) v;
        }
        if (kind == INT) {
            return (int) v;
        }
        return v;
    }

    // ---- sending ----

    private void emptySession(int side) {
        for (int n = 0; n < OBJECTS; n++) {
            secondOf[side * ID_STEP + n] = NONE;
        }
    }

    private void startSending() {
        arriving = NONE;
        for (int id = 0; id < IDS; id++) {
            sourceOf[id] = NONE;
        }
    }

    private void undoSending(int side) {
        for (int id = 0; id < IDS; id++) {
            if (sourceOf[id] != NONE) {
                typeOf[id] = NONE;
            }
        }
        emptySession(side);
    }

    /** Makes the new object for an object that arrives; its fields are filled by the steps that follow. */
    private int arrive(int id, boolean joins) {
        int otherSide = 1 - id / ID_STEP;
        int newType = otherSide * CLASS_NAMES + typeOf[id] % CLASS_NAMES;
        int made = leastFree(otherSide);
        int problem = misfit(typeOf[id], newType);
        if (problem == FINE && made == NONE) {
            problem = FULL;
        }
        if (problem != FINE) {
            latestCulprit = id;
            return problem;
        }
        placeObject(made, newType);
        if (joins) {
            secondOf[id] = made;
        }
        sourceOf[made] = id;
        nextField[made] = 0;
        resumeNext[made] = arriving;
        arriving = made;
        return FINE;
    }

    private int misfit(int type, int newType) {
        if (!defined[newType]) {
            return NO_CLASS;
        }
        int problem = FINE;
        for (int back = LONGEST_CHAIN - 1; back >= 0 && problem == FINE; back--) {
            int own = ancestor(type, back);
            int other = own == NONE ? NONE : namesake(newType, own);
            if (other != NONE) {
                problem = classMisfit(own, other);
            }
        }
        return problem;
    }

    private int classMisfit(int own, int other) {
        if (versionOf[own] != versionOf[other]) {
            return VERSION;
        }
        for (int name = 0; name < FIELD_NAMES; name++) {
            int kind = ownKind[own * FIELD_NAMES + name];
            int otherKind = ownKind[other * FIELD_NAMES + name];
            if (kind != NONE && otherKind != NONE && kind != otherKind) {
                return KIND;
            }
        }
        return FINE;
    }

    private int fillNextField(int made) {
        int at = nextField[made];
        if (at >= CHAIN_FIELDS) {
            arriving = resumeNext[made];
            return FINE;
        }
        int source = sourceOf[made];
        int name = at % FIELD_NAMES;
        int owner = ancestor(typeOf[source], LONGEST_CHAIN - 1 - at / FIELD_NAMES);
        int kind = owner == NONE ? NONE : ownKind[owner * FIELD_NAMES + name];
        if (kind == REFERENCE) {
            int target = targetAt[source * FIELD_NAMES + name];
            if (target != NONE && secondOf[target] == NONE) {
                // The step is not counted: it is done again when the target is complete and known.
                return arrive(target, true);
            }
        }
        if (kind != NONE) {
            fillField(made, owner, name);
        }
        nextField[made] = at + 1;
        return FINE;
    }

    private void fillField(int made, int owner, int name) {
        int other = namesake(typeOf[made], owner);
        if (other == NONE || ownKind[other * FIELD_NAMES + name] == NONE) {
            return;
        }
        int from = sourceOf[made] * FIELD_NAMES + name;
        int to = made * FIELD_NAMES + name;
        numberAt[to] = numberAt[from];
        targetAt[to] = targetAt[from] == NONE ? NONE : secondOf[targetAt[from]];
    }

    // ---- collecting ----

    private void reach(int id) {
        if (!reached[id]) {
            reached[id] = true;
            reachedList[reachedCount] = id;
            reachedCount++;
        }
    }

    private void reachRoots(int side) {
        reachedCount = 0;
        for (int id = 0; id < IDS; id++) {
            reached[id] = false;
        }
        for (int n = 0; n < OBJECTS; n++) {
            int id = side * ID_STEP + n;
            if (typeOf[id] != NONE && (pinned[id] || secondOf[id] != NONE)) {
                reach(id);
            }
            int second = secondOf[(1 - side) * ID_STEP + n];
            if (second != NONE) {
                reach(second);
            }
        }
    }

    private void reachTargets(int id) {
        for (int name = 0; name < FIELD_NAMES; name++) {
            int target = targetAt[id * FIELD_NAMES + name];
            if (target != NONE) {
                reach(target);
            }
        }
    }

    private int dropUnreached(int side) {
        int dropped = 0;
        for (int n = 0; n < OBJECTS; n++) {
            int id = side * ID_STEP + n;
            if (typeOf[id] != NONE && !reached[id]) {
                typeOf[id] = NONE;
                dropped++;
            }
        }
        return dropped;
    }

    // ---- alike ----

    private void relate(int left, int right) {
        int pair = left % ID_STEP * OBJECTS + right % ID_STEP;
        if (!related[pair]) {
            related[pair] = true;
            relatedLeft[relatedCount] = left;
            relatedRight[relatedCount] = right;
            relatedCount++;
        }
    }

    /** Whether nothing in the two objects themselves parts them; what they refer to is related, to be looked at later. */
    private boolean agree(int left, int right) {
        if (typeOf[left] % CLASS_NAMES != typeOf[right] % CLASS_NAMES) {
            return false;
        }
        for (int back = 0; back < LONGEST_CHAIN; back++) {
            int own = ancestor(typeOf[left], back);
            int other = own == NONE ? NONE : namesake(typeOf[right], own);
            for (int name = 0; name < FIELD_NAMES && other != NONE; name++) {
                int kind = ownKind[own * FIELD_NAMES + name];
                int otherKind = ownKind[other * FIELD_NAMES + name];
                if (kind == NONE || otherKind == NONE) {
                    continue;
                }
                if ((kind == REFERENCE) != (otherKind == REFERENCE)) {
                    return false;
                }
                if (!valuesAgree(left * FIELD_NAMES + name, right * FIELD_NAMES + name)) {
                    return false;
                }
            }
        }
        return true;
    }

    /** A number field has no target and a reference field the number 0, so both are compared for either. */
    private boolean valuesAgree(int leftAt, int rightAt) {
        int leftTarget = targetAt[leftAt];
        int rightTarget = targetAt[rightAt];
        if (numberAt[leftAt] != numberAt[rightAt] || (leftTarget == NONE) != (rightTarget == NONE)) {
            return false;
        }
        if (leftTarget != NONE) {
            relate(leftTarget, rightTarget);
        }
        return true;
    }
}
