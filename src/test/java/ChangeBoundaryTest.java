/** The edges that the document names for the calls that change the heap: promises 1 to 7. */
public final class ChangeBoundaryTest {
    private ChangeBoundaryTest() {
    }

    public static void main(String[] args) {
        Check.test("promise 1: all roots refer to nothing", ChangeBoundaryTest::newHeapIsEmpty);
        Check.test("promise 1: two heaps share nothing", ChangeBoundaryTest::heapsShareNothing);
        Check.test("promise 2: every payload is taken", ChangeBoundaryTest::makeTakesEveryPayload);
        Check.test("promise 2: all fields refer to nothing", ChangeBoundaryTest::makeGivesEmptyFields);
        Check.test("promise 2: root r alone refers to the new object", ChangeBoundaryTest::makeMovesOnlyRootR);
        Check.test("promise 3: an object or nothing", ChangeBoundaryTest::copyRootOfNothing);
        Check.test("promise 3: a root onto itself", ChangeBoundaryTest::copyRootOntoItself);
        Check.test("promise 3: no new object, also when full", ChangeBoundaryTest::copyRootMakesNoCopy);
        Check.test("promise 4: an empty root is no refusal", ChangeBoundaryTest::dropOfAnEmptyRoot);
        Check.test("promise 4: root r alone lets go", ChangeBoundaryTest::dropLeavesOtherHolders);
        Check.test("promise 5: nothing is loaded too", ChangeBoundaryTest::loadOfNothing);
        Check.test("promise 5: 'to' may be r", ChangeBoundaryTest::loadOntoItsOwnRoot);
        Check.test("promise 5: the field stays", ChangeBoundaryTest::loadLeavesTheField);
        Check.test("promise 5: an object that refers to itself", ChangeBoundaryTest::loadOfASelfReference);
        Check.test("promise 6: nothing is stored too", ChangeBoundaryTest::storeOfNothing);
        Check.test("promise 6: 'from' may be r", ChangeBoundaryTest::storeOfItself);
        Check.test("promise 6: the one field alone changes", ChangeBoundaryTest::storeReplacesOneFieldAlone);
        Check.test("promise 6: the field refers to the object, not to the root",
            ChangeBoundaryTest::storeRefersToTheObjectNotTheRoot);
        Check.test("promise 7: every payload is taken", ChangeBoundaryTest::setPayloadTakesEveryPayload);
        Check.test("promise 7: the object of root r, by whatever way it is seen",
            ChangeBoundaryTest::setPayloadOfASharedObject);
        Check.end();
    }

    // "All roots refer to nothing", whatever the step.
    private static void newHeapIsEmpty() {
        for (int step : Shapes.STEPS) {
            CountedHeap x = new CountedHeap(step);
            for (int r = 0; r < Shapes.ROOTS; r++) {
                Check.due("promise 1: new, step " + step + ", held " + r, x.held(r), false);
            }
            Check.due("promise 1: new, step " + step + ", reachable", x.reachable(), 0);
        }
    }

    private static void heapsShareNothing() {
        CountedHeap x = new CountedHeap(1);
        CountedHeap y = new CountedHeap(1);
        for (int r = 0; r < Shapes.ROOTS; r++) {
            x.make(r, r + 1);
        }
        Check.due("promise 1: another heap stays empty", y.reachable(), 0);
        y.make(0, 50);
        Check.due("promise 1: another heap's object", x.payload(0), 1);
    }

    private static void makeTakesEveryPayload() {
        CountedHeap x = new CountedHeap(1);
        for (int payload : Shapes.EDGE_PAYLOADS) {
            Check.due("promise 2: make with payload " + payload, x.make(6, payload), 0);
            Check.due("promise 2: it has payload " + payload, x.payload(6), payload);
        }
    }

    // "all its fields referring to nothing"
    private static void makeGivesEmptyFields() {
        for (int field = 0; field < Shapes.FIELDS; field++) {
            CountedHeap x = new CountedHeap(1);
            x.make(0, 5);
            x.make(1, 6);
            Check.due("promise 2: load of field " + field, x.load(1, field, 0), 0);
            Check.due("promise 2: field " + field + " of a new object", x.held(0), false);
        }
    }

    private static void makeMovesOnlyRootR() {
        CountedHeap x = Shapes.threeFields(1);
        x.make(1, 900);
        Check.due("promise 2: root 1 holds the new one", x.payload(1), 900);
        x.load(0, 0, 5);
        Check.due("promise 2: the field still refers to the old one", x.payload(5), 101);
        Check.due("promise 2: other roots stay", x.payload(0), 100);
        Check.due("promise 2: one more", x.reachable(), 5);
    }

    // "(an object or nothing)"
    private static void copyRootOfNothing() {
        CountedHeap x = Shapes.threeFields(1);
        Check.due("promise 3: nothing onto an object", x.copyRoot(6, 1), 0);
        Check.due("promise 3: root 1 holds nothing", x.held(1), false);
        Check.due("promise 3: nothing onto nothing", x.copyRoot(6, 7), 0);
        Check.due("promise 3: root 7 holds nothing", x.held(7), false);
        Check.due("promise 3: an object onto nothing", x.copyRoot(0, 7), 0);
        Check.due("promise 3: root 7 holds it", x.payload(7), 100);
        Check.due("promise 3: root 0 holds it still", x.payload(0), 100);
    }

    private static void copyRootOntoItself() {
        CountedHeap x = Shapes.threeFields(1);
        Check.due("promise 3: held onto itself", x.copyRoot(0, 0), 0);
        Check.due("promise 3: it stays", x.reachableFrom(0), 4);
        Check.due("promise 3: empty onto itself", x.copyRoot(6, 6), 0);
        Check.due("promise 3: it stays empty", x.held(6), false);
    }

    private static void copyRootMakesNoCopy() {
        CountedHeap x = Shapes.list(1, Shapes.ROOM);
        for (int r = 1; r < Shapes.ROOTS; r++) {
            Check.due("promise 3: when full, onto " + r, x.copyRoot(0, r), 0);
            Check.due("promise 3: the same object " + r, x.same(0, r), true);
        }
        Check.due("promise 3: as many as before", x.reachable(), Shapes.ROOM);
    }

    private static void dropOfAnEmptyRoot() {
        CountedHeap x = new CountedHeap(1);
        Check.due("promise 4: never held", x.drop(0), 0);
        x.make(7, 5);
        Check.due("promise 4: held", x.drop(7), 0);
        Check.due("promise 4: dropped before", x.drop(7), 0);
        Check.due("promise 4: still empty", x.held(7), false);
    }

    private static void dropLeavesOtherHolders() {
        CountedHeap x = Shapes.threeFields(1);
        x.copyRoot(0, 7);
        x.drop(0);
        Check.due("promise 4: another root holds it", x.payload(7), 100);
        x.drop(1);
        x.load(7, 0, 1);
        Check.due("promise 4: a field holds it", x.payload(1), 101);
        Check.due("promise 4: none lost", x.reachable(), 4);
    }

    private static void loadOfNothing() {
        for (int field = 0; field < Shapes.FIELDS; field++) {
            CountedHeap x = Shapes.threeFields(1);
            Check.due("promise 5: nothing in field " + field, x.load(1, field, 2), 0);
            Check.due("promise 5: 'to' holds nothing, field " + field, x.held(2), false);
            Check.due("promise 5: nothing onto its own root, field " + field, x.load(3, field, 3), 0);
            Check.due("promise 5: that root holds nothing, field " + field, x.held(3), false);
        }
    }

    private static void loadOntoItsOwnRoot() {
        CountedHeap x = Shapes.list(1, 5);
        for (int payload = 5; payload >= 1; payload--) {
            Check.due("promise 5: on the way, at " + payload, x.payload(0), payload);
            Check.due("promise 5: onto its own root, at " + payload, x.load(0, 0, 0), 0);
        }
        Check.due("promise 5: past the end", x.held(0), false);
        Check.due("promise 5: what was passed is gone", x.reachable(), 0);
    }

    private static void loadLeavesTheField() {
        CountedHeap x = Shapes.threeFields(1);
        for (int field = 0; field < Shapes.FIELDS; field++) {
            x.load(0, field, 6);
            x.load(0, field, 7);
            Check.due("promise 5: the same each time, field " + field, x.same(6, 7), true);
        }
        Check.due("promise 5: root r stays", x.payload(0), 100);
        Check.due("promise 5: all still there", x.reachableFrom(0), 4);
    }

    private static void loadOfASelfReference() {
        CountedHeap x = new CountedHeap(1);
        x.make(0, 8);
        x.store(0, 1, 0);
        Check.due("promise 5: itself onto another root", x.load(0, 1, 3), 0);
        Check.due("promise 5: the same object", x.same(0, 3), true);
        Check.due("promise 5: itself onto its own root", x.load(0, 1, 0), 0);
        Check.due("promise 5: it stays", x.payload(0), 8);
    }

    private static void storeOfNothing() {
        for (int field = 0; field < Shapes.FIELDS; field++) {
            CountedHeap x = Shapes.threeFields(1);
            Check.due("promise 6: nothing over an object, field " + field, x.store(0, field, 7), 0);
            x.load(0, field, 6);
            Check.due("promise 6: the field refers to nothing, field " + field, x.held(6), false);
            Check.due("promise 6: the others stay, field " + field, x.reachableFrom(0), 3);
            Check.due("promise 6: nothing over nothing, field " + field, x.store(0, field, 7), 0);
        }
    }

    private static void storeOfItself() {
        for (int field = 0; field < Shapes.FIELDS; field++) {
            CountedHeap x = new CountedHeap(1);
            x.make(3, 9);
            Check.due("promise 6: itself, field " + field, x.store(3, field, 3), 0);
            Check.due("promise 6: still one object, field " + field, x.reachable(), 1);
            x.load(3, field, 4);
            Check.due("promise 6: refers to itself, field " + field, x.same(3, 4), true);
        }
    }

    private static void storeReplacesOneFieldAlone() {
        for (int field = 0; field < Shapes.FIELDS; field++) {
            CountedHeap x = Shapes.threeFields(1);
            x.make(7, 700);
            x.store(0, field, 7);
            for (int other = 0; other < Shapes.FIELDS; other++) {
                x.load(0, other, 6);
                Check.due("promise 6: stored " + field + ", field " + other, x.payload(6),
                    other == field ? 700 : 101 + other);
            }
            Check.due("promise 6: root 'from' keeps it, field " + field, x.payload(7), 700);
            Check.due("promise 6: other objects' fields stay, field " + field, x.reachableFrom(1), 1);
        }
    }

    private static void storeRefersToTheObjectNotTheRoot() {
        CountedHeap x = Shapes.threeFields(1);
        x.make(1, 800);
        x.drop(2);
        x.load(0, 0, 6);
        Check.due("promise 6: root made anew since", x.payload(6), 101);
        x.load(0, 1, 6);
        Check.due("promise 6: root dropped since", x.payload(6), 102);
    }

    private static void setPayloadTakesEveryPayload() {
        CountedHeap x = new CountedHeap(1);
        x.make(7, 77);
        for (int payload : Shapes.EDGE_PAYLOADS) {
            Check.due("promise 7: set " + payload, x.setPayload(7, payload), 0);
            Check.due("promise 7: it is " + payload, x.payload(7), payload);
            Check.due("promise 7: still one object", x.reachable(), 1);
        }
    }

    private static void setPayloadOfASharedObject() {
        CountedHeap x = Shapes.threeFields(1);
        x.copyRoot(2, 7);
        x.setPayload(7, 55);
        Check.due("promise 7: by the other root", x.payload(2), 55);
        x.load(0, 1, 6);
        Check.due("promise 7: by the field", x.payload(6), 55);
        Check.due("promise 7: other objects keep theirs", x.sum(), 100 + 101 + 55 + 103);
    }
}
