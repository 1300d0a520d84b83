/** Each promise in ordinary use. Each edge that the document names has a test of its own in the boundary tests. */
public final class PromisesTest {
    private static final int BAD_ROOT = -1;
    private static final int BAD_FIELD = -2;
    private static final int NOTHING = -3;
    private static final int FULL = -4;
    private static final int ROOM = Shapes.ROOM;

    private PromisesTest() {
    }

    public static void main(String[] args) {
        constants();
        readmeExample();
        newObject();
        for (int step : Shapes.STEPS) {
            makeFillsTheRoom(step);
            makeCountsOnlyTheReachable(step);
            makeReusesGarbage(step);
            collectChangesNoAnswer(step);
        }
        makeOrdinary();
        makeFullIsTestedAfterBadRoot();
        copyRoot();
        drop();
        load();
        store();
        setPayload();
        payload();
        held();
        same();
        reachable();
        reachableFrom();
        distance();
        distanceTakesTheShortestWay();
        sum();
        Check.end();
    }

    private static void constants() {
        Check.due("BAD_ROOT", OlderFirstHeap.BAD_ROOT, BAD_ROOT);
        Check.due("BAD_FIELD", OlderFirstHeap.BAD_FIELD, BAD_FIELD);
        Check.due("NOTHING", OlderFirstHeap.NOTHING, NOTHING);
        Check.due("FULL", OlderFirstHeap.FULL, FULL);
    }

    // README.md tells these calls and answers: what is changed here is changed there.
    private static void readmeExample() {
        CountedHeap heap = new CountedHeap(4);
        Check.due("promise 2: README: make(0, 10)", heap.make(0, 10), 0);
        Check.due("promise 2: README: make(1, 20)", heap.make(1, 20), 0);
        Check.due("promise 6: README: store(0, 2, 1)", heap.store(0, 2, 1), 0);
        Check.due("promise 4: README: drop(1)", heap.drop(1), 0);
        Check.due("promise 12: README: reachable()", heap.reachable(), 2);
        Check.due("promise 15: README: sum()", heap.sum(), 30);
        Check.due("promise 5: README: load(0, 2, 5)", heap.load(0, 2, 5), 0);
        Check.due("promise 9: README: payload(5)", heap.payload(5), 20);
        Check.due("promise 14: README: distance(0, 5)", heap.distance(0, 5), 1);
        Check.due("promise 2: README: make(8, 30)", heap.make(8, 30), BAD_ROOT);
        Check.due("promise 5: README: load(0, 3, 5)", heap.load(0, 3, 5), BAD_FIELD);
        Check.due("promise 7: README: setPayload(1, 30)", heap.setPayload(1, 30), NOTHING);
    }

    private static void newObject() {
        for (int step : Shapes.STEPS) {
            String at = "promise 1: new, step " + step + ": ";
            CountedHeap x = new CountedHeap(step);
            for (int r = 0; r < 8; r++) {
                Check.due(at + "held " + r, x.held(r), false);
                Check.due(at + "payload " + r, x.payload(r), 0);
                Check.due(at + "same " + r, x.same(r, r), false);
                Check.due(at + "reachableFrom " + r, x.reachableFrom(r), 0);
                Check.due(at + "setPayload " + r, x.setPayload(r, 5), NOTHING);
            }
            Check.due(at + "reachable", x.reachable(), 0);
            Check.due(at + "sum", x.sum(), 0);
        }
        CountedHeap x = new CountedHeap(3);
        CountedHeap y = new CountedHeap(3);
        x.make(0, 9);
        Check.due("promise 1: objects share nothing", y.held(0), false);
    }

    private static void makeOrdinary() {
        CountedHeap x = new CountedHeap(2);
        for (int r = 0; r < 8; r++) {
            Check.due("promise 2: make " + r, x.make(r, 10 + r), 0);
        }
        for (int r = 0; r < 8; r++) {
            Check.due("promise 2: payload of " + r, x.payload(r), 10 + r);
            Check.due("promise 2: new object stands alone " + r, x.reachableFrom(r), 1);
        }
        Check.due("promise 2: eight made", x.reachable(), 8);
        x.store(0, 0, 1);
        x.store(0, 1, 1);
        x.store(0, 2, 1);
        Check.due("promise 2: make over a held root", x.make(0, 77), 0);
        Check.due("promise 2: root refers to the new one", x.payload(0), 77);
        Check.due("promise 2: its fields refer to nothing", x.reachableFrom(0), 1);
        Check.due("promise 2: what it held is gone", x.reachable(), 8);
        for (int bad : Shapes.BAD_ROOTS) {
            Check.due("promise 2: make " + bad, x.make(bad, 1), BAD_ROOT);
        }
        Check.due("promise 2: refused makes made nothing", x.reachable(), 8);
    }

    private static void makeFillsTheRoom(int step) {
        String at = "promise 2: step " + step + ": ";
        CountedHeap x = new CountedHeap(step);
        for (int i = 0; i < ROOM; i++) {
            Check.due(at + "make number " + i, Shapes.push(x, 0, 1, i), 0);
            Check.due(at + "reachable after " + i, x.reachable(), i + 1);
        }
        for (int r = 0; r < 8; r++) {
            Check.due(at + "full, root " + r, x.make(r, 99), FULL);
        }
        Check.due(at + "nothing lost", x.reachable(), ROOM);
        Check.due(at + "no payload changed", x.sum(), ROOM * (ROOM - 1) / 2);
        Check.due(at + "FULL leaves the root", x.payload(0), ROOM - 1);
        Check.due(at + "FULL leaves an empty root", x.held(5), false);
        // Root 0 moves on by one object: just one slot becomes free, whichever it is.
        for (int i = 0; i < ROOM; i++) {
            x.load(0, 0, 0);
            x.drop(1);
            Check.due(at + "room again " + i, x.make(7, 1000 + i), 0);
            x.drop(7);
            Check.due(at + "what is left " + i, x.reachable(), ROOM - 1 - i);
        }
    }

    // The object that root r alone holds counts before the call, though make would let it go.
    private static void makeCountsOnlyTheReachable(int step) {
        String at = "promise 2: step " + step + ": ";
        CountedHeap x = new CountedHeap(step);
        for (int i = 0; i < ROOM - 1; i++) {
            Shapes.push(x, 0, 1, i);
        }
        x.drop(1);
        Check.due(at + "the 24th", x.make(3, 500), 0);
        Check.due(at + "over a root that alone holds one", x.make(3, 600), FULL);
        Check.due(at + "it stays", x.payload(3), 500);
        x.drop(3);
        Check.due(at + "after drop", x.make(3, 600), 0);
        Check.due(at + "the new one", x.payload(3), 600);
        x.drop(0);
        Check.due(at + "the long list let go", x.reachable(), 1);
        for (int i = 0; i < ROOM - 1; i++) {
            Check.due(at + "room for all of it " + i, Shapes.push(x, 0, 1, i), 0);
        }
        Check.due(at + "full again", x.make(2, 1), FULL);
    }

    // Objects that refer to each other and to themselves, held by no root, never count.
    private static void makeReusesGarbage(int step) {
        String at = "promise 2: garbage, step " + step + ": ";
        CountedHeap x = new CountedHeap(step);
        x.make(7, 7);
        for (int i = 0; i < 60; i++) {
            Check.due(at + "one " + i, x.make(0, i), 0);
            Check.due(at + "other " + i, x.make(1, -i), 0);
            x.store(0, i % 3, 1);
            x.store(1, (i + 1) % 3, 0);
            x.store(1, (i + 2) % 3, 7);
            Check.due(at + "pair and the kept one " + i, x.reachable(), 3);
        }
        Check.due(at + "kept payload", x.payload(7), 7);
        Check.due(at + "kept alone", x.reachableFrom(7), 1);
        Check.due(at + "sum", x.sum(), 7);
    }

    private static void makeFullIsTestedAfterBadRoot() {
        CountedHeap x = new CountedHeap(4);
        for (int i = 0; i < ROOM; i++) {
            Shapes.push(x, 0, 1, i);
        }
        for (int bad : Shapes.BAD_ROOTS) {
            Check.due("promise 2: full, make " + bad, x.make(bad, 1), BAD_ROOT);
        }
    }

    private static void copyRoot() {
        CountedHeap x = new CountedHeap(1);
        x.make(0, 5);
        x.make(7, 6);
        Check.due("promise 3: copyRoot 0 7", x.copyRoot(0, 7), 0);
        Check.due("promise 3: same object", x.same(0, 7), true);
        Check.due("promise 3: what 7 held is gone", x.reachable(), 1);
        x.setPayload(7, 50);
        Check.due("promise 3: one object, not a copy", x.payload(0), 50);
        Check.due("promise 3: onto itself", x.copyRoot(0, 0), 0);
        Check.due("promise 3: onto itself keeps it", x.payload(0), 50);
        Check.due("promise 3: nothing copied", x.copyRoot(3, 0), 0);
        Check.due("promise 3: root 0 refers to nothing", x.held(0), false);
        Check.due("promise 3: nothing onto nothing", x.copyRoot(3, 4), 0);
        Check.due("promise 3: root 7 keeps it", x.payload(7), 50);
        for (int bad : Shapes.BAD_ROOTS) {
            Check.due("promise 3: from " + bad, x.copyRoot(bad, 7), BAD_ROOT);
            Check.due("promise 3: to " + bad, x.copyRoot(7, bad), BAD_ROOT);
            Check.due("promise 3: both " + bad, x.copyRoot(bad, bad), BAD_ROOT);
        }
        Check.due("promise 3: refused copies change nothing", x.payload(7), 50);
    }

    private static void drop() {
        CountedHeap x = new CountedHeap(1);
        for (int r = 0; r < 8; r++) {
            x.make(r, 1 << r);
        }
        for (int r = 0; r < 8; r++) {
            Check.due("promise 4: drop " + r, x.drop(r), 0);
            Check.due("promise 4: held " + r, x.held(r), false);
            Check.due("promise 4: the others stay " + r, x.sum(), 256 - (2 << r));
            Check.due("promise 4: drop again " + r, x.drop(r), 0);
        }
        x.make(2, 3);
        x.copyRoot(2, 5);
        x.drop(2);
        Check.due("promise 4: another root keeps the object", x.payload(5), 3);
        for (int bad : Shapes.BAD_ROOTS) {
            Check.due("promise 4: drop " + bad, x.drop(bad), BAD_ROOT);
        }
        Check.due("promise 4: refused drops drop nothing", x.reachable(), 1);
    }

    private static void load() {
        CountedHeap x = Shapes.threeFields(1);
        for (int field = 0; field < 3; field++) {
            Check.due("promise 5: load field " + field, x.load(0, field, 6), 0);
            Check.due("promise 5: payload of field " + field, x.payload(6), 101 + field);
            Check.due("promise 5: same as held " + field, x.same(6, 1 + field), true);
        }
        Check.due("promise 5: the object keeps its fields", x.reachableFrom(0), 4);
        Check.due("promise 5: load of an empty field", x.load(1, 0, 6), 0);
        Check.due("promise 5: root refers to nothing", x.held(6), false);
        Check.due("promise 5: root without object", x.load(6, 0, 1), NOTHING);
        Check.due("promise 5: refused load leaves 'to'", x.payload(1), 101);
        Check.due("promise 5: onto its own root", x.load(0, 2, 0), 0);
        Check.due("promise 5: own root moved on", x.same(0, 3), true);
        for (int bad : Shapes.BAD_ROOTS) {
            Check.due("promise 5: r " + bad, x.load(bad, 0, 1), BAD_ROOT);
            Check.due("promise 5: to " + bad, x.load(1, 0, bad), BAD_ROOT);
        }
        for (int bad : Shapes.BAD_FIELDS) {
            Check.due("promise 5: field " + bad, x.load(1, bad, 2), BAD_FIELD);
        }
        Check.due("promise 5: refused loads change nothing", x.sum(), 101 + 102 + 103);
    }

    private static void store() {
        CountedHeap x = Shapes.threeFields(1);
        Check.due("promise 6: three fields stored", x.reachableFrom(0), 4);
        x.drop(1);
        x.drop(2);
        x.drop(3);
        Check.due("promise 6: fields keep them", x.sum(), 100 + 101 + 102 + 103);
        Check.due("promise 6: store nothing", x.store(0, 1, 5), 0);
        Check.due("promise 6: field 1 let go", x.sum(), 100 + 101 + 103);
        Check.due("promise 6: store itself", x.store(0, 1, 0), 0);
        x.load(0, 1, 4);
        Check.due("promise 6: refers to itself", x.same(0, 4), true);
        Check.due("promise 6: other fields stay", x.reachableFrom(0), 3);
        Check.due("promise 6: root without object", x.store(6, 0, 0), NOTHING);
        Check.due("promise 6: root without object, nothing to store", x.store(6, 2, 5), NOTHING);
        for (int bad : Shapes.BAD_ROOTS) {
            Check.due("promise 6: r " + bad, x.store(bad, 0, 5), BAD_ROOT);
            Check.due("promise 6: from " + bad, x.store(0, 0, bad), BAD_ROOT);
        }
        for (int bad : Shapes.BAD_FIELDS) {
            Check.due("promise 6: field " + bad, x.store(0, bad, 5), BAD_FIELD);
        }
        Check.due("promise 6: refused stores change nothing", x.sum(), 100 + 101 + 103);
    }

    private static void setPayload() {
        CountedHeap x = Shapes.threeFields(1);
        int[] payloads = {0, 1, -1, -3, 255, 256, 65536, Integer.MIN_VALUE, Integer.MAX_VALUE};
        for (int payload : payloads) {
            Check.due("promise 7: set " + payload, x.setPayload(2, payload), 0);
            Check.due("promise 7: payload " + payload, x.payload(2), payload);
            x.load(0, 1, 6);
            Check.due("promise 7: seen through the field " + payload, x.payload(6), payload);
        }
        x.setPayload(2, 102);
        Check.due("promise 7: the others keep theirs", x.sum(), 100 + 101 + 102 + 103);
        Check.due("promise 7: fields stay", x.reachableFrom(0), 4);
        Check.due("promise 7: empty root", x.setPayload(5, 4), NOTHING);
        for (int bad : Shapes.BAD_ROOTS) {
            Check.due("promise 7: root " + bad, x.setPayload(bad, 4), BAD_ROOT);
        }
        Check.due("promise 7: refused calls change nothing", x.sum(), 100 + 101 + 102 + 103);
    }

    private static void collectChangesNoAnswer(int step) {
        String at = "promise 8: step " + step + ": ";
        CountedHeap x = new CountedHeap(step);
        x.collect();
        Check.due(at + "empty", x.reachable(), 0);
        for (int i = 0; i < ROOM; i++) {
            Shapes.push(x, 0, 1, i);
            x.collect();
        }
        Check.due(at + "all stay", x.reachable(), ROOM);
        Check.due(at + "sum", x.sum(), ROOM * (ROOM - 1) / 2);
        x.collect();
        Check.due(at + "still full", x.make(5, 1), FULL);
        x.store(1, 0, 6);
        x.load(0, 1, 4);
        for (int i = 0; i < 30; i++) {
            x.collect();
            Check.due(at + "tail let go " + i, x.reachable(), 1);
            Check.due(at + "head stays " + i, x.payload(0), ROOM - 1);
        }
        for (int i = 1; i < ROOM; i++) {
            Check.due(at + "room after collect " + i, Shapes.push(x, 0, 1, i), 0);
        }
        Check.due(at + "and no more", x.make(5, 1), FULL);
    }

    private static void payload() {
        CountedHeap x = Shapes.threeFields(1);
        Check.due("promise 9: of root 0", x.payload(0), 100);
        Check.due("promise 9: of root 3", x.payload(3), 103);
        Check.due("promise 9: of an empty root", x.payload(7), 0);
        x.make(7, Integer.MIN_VALUE);
        Check.due("promise 9: least int", x.payload(7), Integer.MIN_VALUE);
        x.drop(7);
        Check.due("promise 9: of a dropped root", x.payload(7), 0);
        for (int bad : Shapes.BAD_ROOTS) {
            Check.due("promise 9: of " + bad, x.payload(bad), 0);
        }
    }

    private static void held() {
        CountedHeap x = new CountedHeap(8);
        for (int r = 0; r < 8; r++) {
            Check.due("promise 10: before " + r, x.held(r), false);
            x.make(r, 0);
            Check.due("promise 10: after " + r, x.held(r), true);
        }
        for (int bad : Shapes.BAD_ROOTS) {
            Check.due("promise 10: of " + bad, x.held(bad), false);
        }
        x.drop(4);
        Check.due("promise 10: dropped", x.held(4), false);
        Check.due("promise 10: neighbour", x.held(3), true);
    }

    private static void same() {
        CountedHeap x = new CountedHeap(1);
        x.make(0, 5);
        x.make(1, 5);
        x.copyRoot(0, 7);
        Check.due("promise 11: copied", x.same(0, 7), true);
        Check.due("promise 11: copied, the other way", x.same(7, 0), true);
        Check.due("promise 11: with itself", x.same(1, 1), true);
        Check.due("promise 11: like payloads, two objects", x.same(0, 1), false);
        Check.due("promise 11: one empty", x.same(0, 2), false);
        Check.due("promise 11: other empty", x.same(2, 0), false);
        Check.due("promise 11: both empty", x.same(2, 3), false);
        Check.due("promise 11: empty with itself", x.same(2, 2), false);
        for (int bad : Shapes.BAD_ROOTS) {
            Check.due("promise 11: a " + bad, x.same(bad, 0), false);
            Check.due("promise 11: b " + bad, x.same(0, bad), false);
            Check.due("promise 11: both " + bad, x.same(bad, bad), false);
            Check.due("promise 11: with an empty one " + bad, x.same(bad, 2), false);
        }
    }

    private static void reachable() {
        CountedHeap x = Shapes.threeFields(1);
        Check.due("promise 12: four", x.reachable(), 4);
        x.copyRoot(0, 7);
        Check.due("promise 12: held twice, counted once", x.reachable(), 4);
        x.store(1, 0, 0);
        x.store(2, 1, 2);
        x.store(3, 2, 1);
        Check.due("promise 12: rings are counted once", x.reachable(), 4);
        x.drop(0);
        x.drop(1);
        x.drop(2);
        x.drop(7);
        Check.due("promise 12: all by way of 3", x.reachable(), 4);
        x.drop(3);
        Check.due("promise 12: a ring that no root holds", x.reachable(), 0);
    }

    private static void reachableFrom() {
        CountedHeap x = Shapes.threeFields(1);
        Check.due("promise 13: from 0", x.reachableFrom(0), 4);
        Check.due("promise 13: from 1", x.reachableFrom(1), 1);
        x.store(1, 2, 3);
        Check.due("promise 13: from 1 to 3", x.reachableFrom(1), 2);
        x.store(3, 0, 1);
        Check.due("promise 13: ring", x.reachableFrom(3), 2);
        x.store(3, 1, 0);
        Check.due("promise 13: ring by way of 0", x.reachableFrom(1), 4);
        Check.due("promise 13: not from 2", x.reachableFrom(2), 1);
        Check.due("promise 13: empty root", x.reachableFrom(6), 0);
        for (int bad : Shapes.BAD_ROOTS) {
            Check.due("promise 13: from " + bad, x.reachableFrom(bad), 0);
        }
    }

    private static void distance() {
        CountedHeap x = new CountedHeap(5);
        x.make(7, 0);
        x.copyRoot(7, 0);
        for (int i = 1; i < ROOM; i++) {
            Shapes.push(x, 0, 1, i);
            Check.due("promise 14: along the list " + i, x.distance(0, 7), i);
            Check.due("promise 14: no way back " + i, x.distance(7, 0), NOTHING);
        }
        Check.due("promise 14: to itself", x.distance(0, 0), 0);
        Check.due("promise 14: to the same object", x.distance(0, 1), 0);
        Check.due("promise 14: a is empty", x.distance(5, 0), NOTHING);
        Check.due("promise 14: b is empty", x.distance(0, 5), NOTHING);
        Check.due("promise 14: both empty", x.distance(5, 5), NOTHING);
        for (int bad : Shapes.BAD_ROOTS) {
            Check.due("promise 14: a " + bad, x.distance(bad, 0), NOTHING);
            Check.due("promise 14: b " + bad, x.distance(0, bad), NOTHING);
            Check.due("promise 14: both " + bad, x.distance(bad, bad), NOTHING);
        }
        x.store(7, 2, 0);
        Check.due("promise 14: ring closed", x.distance(7, 0), 1);
        Check.due("promise 14: round the ring", x.distance(0, 7), ROOM - 1);
        Check.due("promise 14: to itself in a ring", x.distance(7, 7), 0);
    }

    private static void distanceTakesTheShortestWay() {
        // 0 -> 1 -> 2 -> 3 -> 4 and short cuts 0 -> 3 and 1 -> 4, each through another field.
        for (int field = 0; field < 3; field++) {
            CountedHeap x = new CountedHeap(1);
            for (int r = 0; r < 5; r++) {
                x.make(r, r);
            }
            for (int r = 0; r < 4; r++) {
                x.store(r, field, r + 1);
            }
            Check.due("promise 14: long way, field " + field, x.distance(0, 4), 4);
            x.store(1, (field + 1) % 3, 4);
            Check.due("promise 14: by way of 1, field " + field, x.distance(0, 4), 2);
            x.store(0, (field + 2) % 3, 3);
            Check.due("promise 14: short cut to 3, field " + field, x.distance(0, 3), 1);
            Check.due("promise 14: two ways of two, field " + field, x.distance(0, 4), 2);
            Check.due("promise 14: no way back, field " + field, x.distance(4, 0), NOTHING);
        }
    }

    private static void sum() {
        CountedHeap x = Shapes.threeFields(1);
        Check.due("promise 15: four", x.sum(), 406);
        x.copyRoot(0, 6);
        x.store(1, 0, 0);
        Check.due("promise 15: each counted once", x.sum(), 406);
        x.setPayload(0, Integer.MAX_VALUE);
        x.setPayload(1, 1);
        x.setPayload(2, 0);
        x.setPayload(3, 0);
        Check.due("promise 15: wraps upwards", x.sum(), Integer.MIN_VALUE);
        x.setPayload(0, Integer.MIN_VALUE);
        x.setPayload(1, -1);
        Check.due("promise 15: wraps downwards", x.sum(), Integer.MAX_VALUE);
        for (int r = 0; r < 8; r++) {
            x.drop(r);
        }
        Check.due("promise 15: nothing reachable", x.sum(), 0);
    }
}
