/**
 * A garbage-collected heap of small objects, held by eight roots.
 *
 * An object is a slot number; a reference is a slot number or NO_OBJECT. Objects are never moved.
 * A slot is reclaimed only when no slot is free and a new object is asked for, or by collect():
 * a window of 'step' slots then goes round the heap, from the slots looked at longest ago on, and
 * stops as soon as it has freed something.
 */
public final class OlderFirstHeap {
    public static final int BAD_ROOT = -1;
    public static final int BAD_FIELD = -2;
    public static final int NOTHING = -3;
    public static final int FULL = -4;

    private static final int ROOTS = 8;
    private static final int FIELDS = 3;
    private static final int SLOTS = 24;
    private static final int FIELD_CELLS = 72;
    private static final int LEAST_STEP = 1;
    private static final int GREATEST_STEP = 8;
    private static final int NO_OBJECT = -1;
    private static final int UNSEEN = -1;

    private final int[] roots = new int[ROOTS];
    private final boolean[] taken = new boolean[SLOTS];
    private final int[] payloads = new int[SLOTS];
    private final int[] references = new int[FIELD_CELLS];

    private final int windowSize;
    private int windowStart = 0;

    // What the last walk saw: the objects in the order of their distance, and each slot's distance.
    private final int[] seen = new int[SLOTS];
    private final int[] distances = new int[SLOTS];
    private int seenCount = 0;

    public OlderFirstHeap(int step) {
        windowSize = clampStep(step);
        for (int r = 0; r < ROOTS; r++) {
            roots[r] = NO_OBJECT;
        }
    }

    public int make(int r, int payload) {
        if (!isRoot(r)) {
            return BAD_ROOT;
        }
        int slot = freeSlot();
        if (slot == NO_OBJECT) {
            clean();
            slot = freeSlot();
        }
        if (slot == NO_OBJECT) {
            return FULL;
        }
        fillSlot(slot, payload);
        roots[r] = slot;
        return 0;
    }

    public int copyRoot(int from, int to) {
        if (!isRoot(from) || !isRoot(to)) {
            return BAD_ROOT;
        }
        roots[to] = roots[from];
        return 0;
    }

    public int drop(int r) {
        if (!isRoot(r)) {
            return BAD_ROOT;
        }
        roots[r] = NO_OBJECT;
        return 0;
    }

    public int load(int r, int field, int to) {
        int refusal = fieldRefusal(r, field, to);
        if (refusal != 0) {
            return refusal;
        }
        roots[to] = references[roots[r] * FIELDS + field];
        return 0;
    }

    public int store(int r, int field, int from) {
        int refusal = fieldRefusal(r, field, from);
        if (refusal != 0) {
            return refusal;
        }
        references[roots[r] * FIELDS + field] = roots[from];
        return 0;
    }

    public int setPayload(int r, int payload) {
        if (!isRoot(r)) {
            return BAD_ROOT;
        }
        if (roots[r] == NO_OBJECT) {
            return NOTHING;
        }
        payloads[roots[r]] = payload;
        return 0;
    }

    public void collect() {
        clean();
    }

    public int payload(int r) {
        int object = objectOf(r);
        return object == NO_OBJECT ? 0 : payloads[object];
    }

    public boolean held(int r) {
        return objectOf(r) != NO_OBJECT;
    }

    public boolean same(int a, int b) {
        int object = objectOf(a);
        return object != NO_OBJECT && object == objectOf(b);
    }

    public int reachable() {
        walkFromAllRoots();
        return seenCount;
    }

    public int reachableFrom(int r) {
        int object = objectOf(r);
        walkFrom(object);
        return seenCount;
    }

    public int distance(int a, int b) {
        int start = objectOf(a);
        int target = objectOf(b);
        if (target == NO_OBJECT) {
            return NOTHING;
        }
        walkFrom(start);
        return distances[target] == UNSEEN ? NOTHING : distances[target];
    }

    public int sum() {
        walkFromAllRoots();
        int total = 0;
        for (int i = 0; i < seenCount; i++) {
            total += payloads[seen[i]];
        }
        return total;
    }

    private static int clampStep(int step) {
        if (step < LEAST_STEP) {
            return LEAST_STEP;
        }
        return step > GREATEST_STEP ? GREATEST_STEP : step;
    }

    private static boolean isRoot(int r) {
        return r >= 0 && r < ROOTS;
    }

    private int objectOf(int r) {
        return isRoot(r) ? roots[r] : NO_OBJECT;
    }

    private int fieldRefusal(int r, int field, int other) {
        if (!isRoot(r) || !isRoot(other)) {
            return BAD_ROOT;
        }
        if (field < 0 || field >= FIELDS) {
            return BAD_FIELD;
        }
        return roots[r] == NO_OBJECT ? NOTHING : 0;
    }

    private int freeSlot() {
        for (int slot = 0; slot < SLOTS; slot++) {
            if (!taken[slot]) {
                return slot;
            }
        }
        return NO_OBJECT;
    }

    private void fillSlot(int slot, int payload) {
        taken[slot] = true;
        payloads[slot] = payload;
        for (int field = 0; field < FIELDS; field++) {
            references[slot * FIELDS + field] = NO_OBJECT;
        }
    }

    private void clean() {
        walkFromAllRoots();
        boolean freed = false;
        // Even windows of one slot have gone all round the heap after SLOTS of them.
        for (int window = 0; window < SLOTS && !freed; window++) {
            freed = sweepWindow();
        }
    }

    // An object left taken though unreachable may refer to a freed slot: nothing can reach it again,
    // so nobody follows that reference.
    private boolean sweepWindow() {
        boolean freed = false;
        for (int i = 0; i < windowSize; i++) {
            if (taken[windowStart] && distances[windowStart] == UNSEEN) {
                taken[windowStart] = false;
                freed = true;
            }
            windowStart = windowStart + 1 < SLOTS ? windowStart + 1 : 0;
        }
        return freed;
    }

    private void walkFromAllRoots() {
        forgetWalk();
        for (int r = 0; r < ROOTS; r++) {
            see(roots[r], 0);
        }
        followReferences();
    }

    private void walkFrom(int object) {
        forgetWalk();
        see(object, 0);
        followReferences();
    }

    private void forgetWalk() {
        seenCount = 0;
        for (int slot = 0; slot < SLOTS; slot++) {
            distances[slot] = UNSEEN;
        }
    }

    // Each slot is seen once, so 'seen' has room whenever we come to it; the look at seenCount makes
    // that plain at the index itself.
    private void see(int object, int distance) {
        if (object == NO_OBJECT || distances[object] != UNSEEN || seenCount >= SLOTS) {
            return;
        }
        distances[object] = distance;
        seen[seenCount] = object;
        seenCount++;
    }

    // seenCount grows during this loop, but each slot is seen once, so SLOTS bounds it.
    private void followReferences() {
        for (int i = 0; i < SLOTS && i < seenCount; i++) {
            int object = seen[i];
            int next = distances[object] + 1;
            for (int field = 0; field < FIELDS; field++) {
                see(references[object * FIELDS + field], next);
            }
        }
    }
}
