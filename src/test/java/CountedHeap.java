/** An OlderFirstHeap that reports a test which asks it more than the 512 calls that the document answers for. */
final class CountedHeap {
    static final int MOST_CALLS = 512;

    private final OlderFirstHeap heap;
    private int calls = 0;

    CountedHeap(int step) {
        heap = new OlderFirstHeap(step);
    }

    int calls() {
        return calls;
    }

    int make(int r, int payload) {
        count();
        return heap.make(r, payload);
    }

    int copyRoot(int from, int to) {
        count();
        return heap.copyRoot(from, to);
    }

    int drop(int r) {
        count();
        return heap.drop(r);
    }

    int load(int r, int field, int to) {
        count();
        return heap.load(r, field, to);
    }

    int store(int r, int field, int from) {
        count();
        return heap.store(r, field, from);
    }

    int setPayload(int r, int payload) {
        count();
        return heap.setPayload(r, payload);
    }

    void collect() {
        count();
        heap.collect();
    }

    int payload(int r) {
        count();
        return heap.payload(r);
    }

    boolean held(int r) {
        count();
        return heap.held(r);
    }

    boolean same(int a, int b) {
        count();
        return heap.same(a, b);
    }

    int reachable() {
        count();
        return heap.reachable();
    }

    int reachableFrom(int r) {
        count();
        return heap.reachableFrom(r);
    }

    int distance(int a, int b) {
        count();
        return heap.distance(a, b);
    }

    int sum() {
        count();
        return heap.sum();
    }

    private void count() {
        calls++;
        if (calls == MOST_CALLS + 1) {
            StackTraceElement[] trace = new Throwable().getStackTrace();
            Check.report("a test makes more than " + MOST_CALLS + " calls on one object: " + trace[2]);
        }
    }
}
