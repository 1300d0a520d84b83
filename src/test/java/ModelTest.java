/** Long mixed runs of calls, each answer held against HeapModel's. */
public final class ModelTest {
    private static final int CALLS = 512;
    private static final int SEEDS = 40;
    private static final int[] STEPS =
        {Integer.MIN_VALUE, -1, 0, 1, 2, 3, 4, 5, 6, 7, 8, 9, 24, 1000, Integer.MAX_VALUE};
    private static final int[] BAD_ROOTS =
        {-1, 8, 9, -8, 23, 24, 256, -256, Integer.MIN_VALUE, Integer.MAX_VALUE};
    private static final int[] BAD_FIELDS = {-1, 3, 4, -3, 256, Integer.MIN_VALUE, Integer.MAX_VALUE};
    private static final int[] PAYLOADS =
        {0, 1, -1, -3, 127, 128, 40000, Integer.MIN_VALUE, Integer.MAX_VALUE};

    // How often, in 100 calls, a run grows a structure, throws roots away, and names a wrong number.
    private static final int[][] PROFILES = {{5, 10, 8}, {35, 4, 4}, {60, 2, 2}, {45, 12, 0}, {25, 0, 20}};

    private static int fullSeen = 0;
    private static int madeAfterFull = 0;
    private static int farthestSeen = 0;

    private final OlderFirstHeap heap;
    private final HeapModel model = new HeapModel();
    private final String name;
    private final int[] profile;
    private long state;
    private int calls = 0;
    private boolean wasFull = false;

    private ModelTest(int step, int[] profile, int seed) {
        this.heap = new OlderFirstHeap(step);
        this.profile = profile;
        this.name = "step " + step + " profile " + profile[0] + " seed " + seed;
        this.state = seed * 1000003L + step * 7919L + profile[0];
    }

    public static void main(String[] args) {
        for (int step : STEPS) {
            for (int[] profile : PROFILES) {
                for (int seed = 1; seed <= SEEDS; seed++) {
                    new ModelTest(step, profile, seed).run();
                }
            }
        }
        // Without these the runs would have passed the edges by.
        Check.due("runs that met FULL often", fullSeen > 1000, true);
        Check.due("runs that made objects again after FULL", madeAfterFull > 1000, true);
        Check.due("runs that met long ways", farthestSeen >= 8, true);
        Check.end();
    }

    private void run() {
        while (calls < CALLS) {
            int roll = below(100);
            if (roll < profile[0]) {
                grow();
            } else if (roll < profile[0] + profile[1]) {
                drop(root());
            } else if (roll < 80) {
                ask();
            } else {
                change();
            }
        }
    }

    // Puts a new object in front of what a root holds, so that the structure behind it stays reachable.
    private void grow() {
        int top = below(8);
        int fresh = (top + 1 + below(7)) % 8;
        make(fresh, number());
        store(fresh, below(3), top);
        copyRoot(fresh, top);
    }

    private void change() {
        switch (below(7)) {
            case 0: make(root(), number()); break;
            case 1: copyRoot(root(), root()); break;
            case 2: load(root(), field(), root()); break;
            case 3: case 4: store(root(), field(), root()); break;
            case 5: setPayload(root(), number()); break;
            default: collect(); break;
        }
    }

    private void ask() {
        int a = root();
        int b = root();
        switch (below(7)) {
            case 0: due("payload(" + a + ")", heap.payload(a), model.payload(a)); break;
            case 1: due("held(" + a + ")", heap.held(a) ? 1 : 0, model.held(a) ? 1 : 0); break;
            case 2: due("same(" + a + ", " + b + ")", heap.same(a, b) ? 1 : 0, model.same(a, b) ? 1 : 0); break;
            case 3: due("reachable()", heap.reachable(), model.reachable()); break;
            case 4: due("reachableFrom(" + a + ")", heap.reachableFrom(a), model.reachableFrom(a)); break;
            case 5: askDistance(a, b); break;
            default: due("sum()", heap.sum(), model.sum()); break;
        }
    }

    private void askDistance(int a, int b) {
        int want = model.distance(a, b);
        farthestSeen = Math.max(farthestSeen, want);
        due("distance(" + a + ", " + b + ")", heap.distance(a, b), want);
    }

    private void make(int r, int payload) {
        int want = model.make(r, payload);
        if (want == OlderFirstHeap.FULL) {
            fullSeen++;
            wasFull = true;
        } else if (want == 0 && wasFull) {
            madeAfterFull++;
            wasFull = false;
        }
        due("make(" + r + ", " + payload + ")", heap.make(r, payload), want);
    }

    private void copyRoot(int from, int to) {
        due("copyRoot(" + from + ", " + to + ")", heap.copyRoot(from, to), model.copyRoot(from, to));
    }

    private void drop(int r) {
        due("drop(" + r + ")", heap.drop(r), model.drop(r));
    }

    private void load(int r, int field, int to) {
        due("load(" + r + ", " + field + ", " + to + ")", heap.load(r, field, to), model.load(r, field, to));
    }

    private void store(int r, int field, int from) {
        due("store(" + r + ", " + field + ", " + from + ")", heap.store(r, field, from), model.store(r, field, from));
    }

    private void setPayload(int r, int payload) {
        due("setPayload(" + r + ", " + payload + ")", heap.setPayload(r, payload), model.setPayload(r, payload));
    }

    private void collect() {
        heap.collect();
        calls++;
    }

    // What comes after the 512th call is free, so it isn't held against the model.
    private void due(String call, long got, long want) {
        calls++;
        if (calls <= CALLS) {
            Check.due(name + ", call " + calls + ": " + call, got, want);
        }
    }

    private int root() {
        return below(100) < profile[2] ? BAD_ROOTS[below(BAD_ROOTS.length)] : below(8);
    }

    private int field() {
        return below(100) < profile[2] ? BAD_FIELDS[below(BAD_FIELDS.length)] : below(3);
    }

    private int number() {
        return below(4) == 0 ? PAYLOADS[below(PAYLOADS.length)] : below(2000000000) - 1000000000;
    }

    // A fixed sequence of numbers: the same runs every time.
    private int below(int bound) {
        state = state * 6364136223846793005L + 1442695040888963407L;
        return (int) ((state >>> 33) % bound);
    }
}
