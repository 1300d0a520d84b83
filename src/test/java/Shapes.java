/** Heaps that several tests begin with. Each object has a payload of its own. */
final class Shapes {
    static final int ROOTS = 8;
    static final int FIELDS = 3;
    static final int ROOM = 24;
    static final int[] BAD_ROOTS =
        {-1, 8, 9, -8, 24, 256, -256, 65536, Integer.MIN_VALUE, Integer.MAX_VALUE};
    static final int[] BAD_FIELDS = {-1, 3, 4, -3, 256, -256, 65536, Integer.MIN_VALUE, Integer.MAX_VALUE};
    static final int[] STEPS =
        {Integer.MIN_VALUE, -7, -1, 0, 1, 2, 3, 4, 5, 6, 7, 8, 9, 25, Integer.MAX_VALUE};
    static final int[] EDGE_PAYLOADS =
        {0, 1, -1, -2, -3, -4, 127, 128, 32768, 65536, Integer.MIN_VALUE, Integer.MAX_VALUE};

    private Shapes() {
    }

    // Root 0 holds an object (payload 100) whose fields 0 to 2 refer to those of roots 1 to 3 (101 to 103).
    static CountedHeap threeFields(int step) {
        CountedHeap x = new CountedHeap(step);
        for (int r = 0; r <= FIELDS; r++) {
            x.make(r, 100 + r);
        }
        for (int field = 0; field < FIELDS; field++) {
            x.store(0, field, field + 1);
        }
        return x;
    }

    // Root 0 holds a list of so many objects, the last one made (payload 'length') in front; field 0 leads on.
    static CountedHeap list(int step, int length) {
        CountedHeap x = new CountedHeap(step);
        for (int i = 1; i <= length; i++) {
            push(x, 0, 1, i);
        }
        x.drop(1);
        return x;
    }

    // 24 objects: a list of 17 at root 0, and roots 1 to 7 each alone hold one, with payload 1000 + r.
    static CountedHeap fullOnAllRoots(int step) {
        CountedHeap x = list(step, ROOM - ROOTS + 1);
        for (int r = 1; r < ROOTS; r++) {
            x.make(r, 1000 + r);
        }
        return x;
    }

    // 24 objects at root 0: each but the last ones refers to three others, as in a tree.
    static CountedHeap fullTree(int step) {
        CountedHeap x = new CountedHeap(step);
        x.make(0, 1);
        for (int child = 2; child <= ROOM; child++) {
            x.copyRoot(0, 1);
            walkToNode(x, 1, (child + 1) / FIELDS);
            x.make(2, child);
            x.store(1, (child + 1) % FIELDS, 2);
        }
        x.drop(1);
        x.drop(2);
        return x;
    }

    // A new object in front of the list that root 'list' holds, by way of root 'spare', which then holds it too.
    static int push(CountedHeap x, int list, int spare, int payload) {
        int answer = x.make(spare, payload);
        x.store(spare, 0, list);
        x.copyRoot(spare, list);
        return answer;
    }

    // Takes the root from the tree's top to the node with this number, by way of its forebears.
    private static void walkToNode(CountedHeap x, int root, int node) {
        int[] fields = new int[ROOM];
        int depth = 0;
        for (int at = node; at > 1; at = (at + 1) / FIELDS) {
            fields[depth] = (at + 1) % FIELDS;
            depth++;
        }
        for (int i = depth - 1; i >= 0; i--) {
            x.load(root, fields[i], root);
        }
    }
}
