import java.util.function.Supplier;
import java.util.function.ToIntFunction;

/** The sentences of "Terms" on refused calls: which answer comes first, and that nothing is changed. */
public final class RefusalBoundaryTest {
    private static final int BAD_ROOT = -1;
    private static final int BAD_FIELD = -2;
    private static final int NOTHING = -3;
    private static final int FULL = -4;
    private static final int EMPTY = 5;

    private RefusalBoundaryTest() {
    }

    public static void main(String[] args) {
        Check.test("promises 2 to 7: roots 0 and 7 are not BAD_ROOT", RefusalBoundaryTest::firstAndLastRootAreTaken);
        Check.test("promises 2 to 7: a root number not in 0 to 7 is BAD_ROOT", RefusalBoundaryTest::badRootIsRefused);
        Check.test("promises 3, 5 and 6: BAD_ROOT is tested first", RefusalBoundaryTest::badRootComesBeforeAllElse);
        Check.test("promises 5 and 6: several roots are all tested before anything else",
            RefusalBoundaryTest::severalRootsAreAllTestedFirst);
        Check.test("promises 5 and 6: fields 0 to 2 are not BAD_FIELD",
            RefusalBoundaryTest::firstAndLastFieldAreTaken);
        Check.test("promises 5 and 6: a field not in 0 to 2 is BAD_FIELD", RefusalBoundaryTest::badFieldIsRefused);
        Check.test("promises 5 and 6: BAD_FIELD comes before NOTHING",
            RefusalBoundaryTest::badFieldComesBeforeNothing);
        Check.test("promises 5 to 7: NOTHING where root r must refer to an object",
            RefusalBoundaryTest::nothingIsRefused);
        Check.test("promises 3 to 6: the other root may refer to nothing",
            RefusalBoundaryTest::onlyTheRootThatMustHoldAnObjectIsRefused);
        Check.test("promise 2: a make refused with FULL changes nothing", RefusalBoundaryTest::fullIsRefused);
        Check.test("promise 2: BAD_ROOT comes before FULL", RefusalBoundaryTest::badRootComesBeforeFull);
        Check.end();
    }

    // "A root number not in 0 to 7 is BAD_ROOT": 0 and 7 are not.
    private static void firstAndLastRootAreTaken() {
        for (int r : new int[] {0, 7}) {
            CountedHeap x = new CountedHeap(1);
            x.make(3, 30);
            Check.due("promise 2: make(" + r + ")", x.make(r, 11), 0);
            Check.due("promise 2: root " + r + " holds it", x.payload(r), 11);
            Check.due("promise 6: store(" + r + ", 0, 3)", x.store(r, 0, 3), 0);
            Check.due("promise 6: store(3, 0, " + r + ")", x.store(3, 0, r), 0);
            Check.due("promise 5: load(" + r + ", 0, 4)", x.load(r, 0, 4), 0);
            Check.due("promise 5: root 4 holds it", x.payload(4), 30);
            Check.due("promise 7: setPayload(" + r + ")", x.setPayload(r, 12), 0);
            Check.due("promise 7: root " + r + " has it", x.payload(r), 12);
            Check.due("promise 3: copyRoot(" + r + ", 5)", x.copyRoot(r, 5), 0);
            Check.due("promise 3: root 5 holds it", x.payload(5), 12);
            Check.due("promise 3: copyRoot(3, " + r + ")", x.copyRoot(3, r), 0);
            Check.due("promise 3: root " + r + " holds it", x.payload(r), 30);
            Check.due("promise 5: load(3, 0, " + r + ")", x.load(3, 0, r), 0);
            Check.due("promise 5: root " + r + " holds it", x.payload(r), 12);
            Check.due("promise 4: drop(" + r + ")", x.drop(r), 0);
            Check.due("promise 4: root " + r + " is empty", x.held(r), false);
        }
    }

    private static void badRootIsRefused() {
        for (int bad : Shapes.BAD_ROOTS) {
            refused("promise 2: make, r " + bad, BAD_ROOT, x -> x.make(bad, 7));
            refused("promise 3: copyRoot, from " + bad, BAD_ROOT, x -> x.copyRoot(bad, 0));
            refused("promise 3: copyRoot, to " + bad, BAD_ROOT, x -> x.copyRoot(0, bad));
            refused("promise 3: copyRoot, both " + bad, BAD_ROOT, x -> x.copyRoot(bad, bad));
            refused("promise 4: drop, r " + bad, BAD_ROOT, x -> x.drop(bad));
            refused("promise 5: load, r " + bad, BAD_ROOT, x -> x.load(bad, 0, 1));
            refused("promise 5: load, to " + bad, BAD_ROOT, x -> x.load(0, 0, bad));
            refused("promise 6: store, r " + bad, BAD_ROOT, x -> x.store(bad, 0, 1));
            refused("promise 6: store, from " + bad, BAD_ROOT, x -> x.store(0, 0, bad));
            refused("promise 7: setPayload, r " + bad, BAD_ROOT, x -> x.setPayload(bad, 7));
        }
    }

    // "BAD_ROOT, tested first": before a bad field and before a root without an object.
    private static void badRootComesBeforeAllElse() {
        for (int bad : Shapes.BAD_ROOTS) {
            for (int field : Shapes.BAD_FIELDS) {
                String fields = ", field " + field;
                refused("promise 5: load, r " + bad + fields, BAD_ROOT, x -> x.load(bad, field, 1));
                refused("promise 6: store, r " + bad + fields, BAD_ROOT, x -> x.store(bad, field, 1));
            }
            refused("promise 3: copyRoot, from empty to " + bad, BAD_ROOT, x -> x.copyRoot(EMPTY, bad));
            refused("promise 3: copyRoot, from " + bad + " to empty", BAD_ROOT, x -> x.copyRoot(bad, EMPTY));
        }
    }

    // "several roots are all tested before anything else": the second root too, though r or the field fails.
    private static void severalRootsAreAllTestedFirst() {
        for (int bad : Shapes.BAD_ROOTS) {
            for (int field : Shapes.BAD_FIELDS) {
                String fields = ", field " + field;
                refused("promise 5: load, to " + bad + fields, BAD_ROOT, x -> x.load(0, field, bad));
                refused("promise 6: store, from " + bad + fields, BAD_ROOT, x -> x.store(0, field, bad));
                refused("promise 5: load, r empty, to " + bad + fields, BAD_ROOT, x -> x.load(EMPTY, field, bad));
                refused("promise 6: store, r empty, from " + bad + fields, BAD_ROOT,
                    x -> x.store(EMPTY, field, bad));
            }
            refused("promise 5: load, r empty, to " + bad, BAD_ROOT, x -> x.load(EMPTY, 0, bad));
            refused("promise 6: store, r empty, from " + bad, BAD_ROOT, x -> x.store(EMPTY, 0, bad));
            refused("promise 5: load, both " + bad, BAD_ROOT, x -> x.load(bad, 0, bad));
            refused("promise 6: store, both " + bad, BAD_ROOT, x -> x.store(bad, 0, bad));
        }
    }

    // "a field not in 0 to 2 is BAD_FIELD": 0 and 2 are not, nor what lies between.
    private static void firstAndLastFieldAreTaken() {
        for (int field = 0; field < Shapes.FIELDS; field++) {
            CountedHeap x = Shapes.threeFields(1);
            Check.due("promise 5: load(0, " + field + ", 6)", x.load(0, field, 6), 0);
            Check.due("promise 5: field " + field + " was loaded", x.payload(6), 101 + field);
            Check.due("promise 6: store(0, " + field + ", 0)", x.store(0, field, 0), 0);
            x.load(0, field, 6);
            Check.due("promise 6: field " + field + " was stored", x.payload(6), 100);
        }
    }

    private static void badFieldIsRefused() {
        for (int field : Shapes.BAD_FIELDS) {
            refused("promise 5: load, field " + field, BAD_FIELD, x -> x.load(0, field, 1));
            refused("promise 5: load to an empty root, field " + field, BAD_FIELD, x -> x.load(0, field, EMPTY));
            refused("promise 5: load to itself, field " + field, BAD_FIELD, x -> x.load(0, field, 0));
            refused("promise 6: store, field " + field, BAD_FIELD, x -> x.store(0, field, 1));
            refused("promise 6: store of nothing, field " + field, BAD_FIELD, x -> x.store(0, field, EMPTY));
            refused("promise 6: store of itself, field " + field, BAD_FIELD, x -> x.store(0, field, 0));
        }
    }

    private static void badFieldComesBeforeNothing() {
        for (int field : Shapes.BAD_FIELDS) {
            refused("promise 5: load, r empty, field " + field, BAD_FIELD, x -> x.load(EMPTY, field, 0));
            refused("promise 6: store, r empty, field " + field, BAD_FIELD, x -> x.store(EMPTY, field, 0));
            refused("promise 5: load, both empty, field " + field, BAD_FIELD, x -> x.load(EMPTY, field, EMPTY));
            refused("promise 6: store, both empty, field " + field, BAD_FIELD, x -> x.store(EMPTY, field, EMPTY));
        }
    }

    // "where a root must refer to an object and doesn't, NOTHING"
    private static void nothingIsRefused() {
        for (int empty = 4; empty < Shapes.ROOTS; empty++) {
            int r = empty;
            for (int number = 0; number < Shapes.FIELDS; number++) {
                int field = number;
                refused("promise 5: load, r empty, to held", NOTHING, x -> x.load(r, field, 0));
                refused("promise 5: load, r empty, to itself", NOTHING, x -> x.load(r, field, r));
                refused("promise 6: store, r empty, from held", NOTHING, x -> x.store(r, field, 0));
                refused("promise 6: store, r empty, from itself", NOTHING, x -> x.store(r, field, r));
            }
            refused("promise 7: setPayload, r empty", NOTHING, x -> x.setPayload(r, 7));
        }
        CountedHeap x = Shapes.threeFields(1);
        x.drop(0);
        Check.due("promise 5: load, r dropped", x.load(0, 0, 1), NOTHING);
        Check.due("promise 6: store, r dropped", x.store(0, 0, 1), NOTHING);
        Check.due("promise 7: setPayload, r dropped", x.setPayload(0, 1), NOTHING);
    }

    // The other root may refer to "an object or nothing", and so may the root of drop and copyRoot.
    private static void onlyTheRootThatMustHoldAnObjectIsRefused() {
        CountedHeap x = Shapes.threeFields(1);
        Check.due("promise 3: copyRoot of nothing", x.copyRoot(EMPTY, 3), 0);
        Check.due("promise 4: drop of an empty root", x.drop(EMPTY), 0);
        Check.due("promise 5: load to an empty root", x.load(0, 0, EMPTY), 0);
        Check.due("promise 6: store of nothing", x.store(0, 0, 6), 0);
    }

    // "A refused call changes nothing": root r still refers to what it did.
    private static void fullIsRefused() {
        for (int root = 0; root < Shapes.ROOTS; root++) {
            int r = root;
            refusedOn("promise 2: full on all roots, make " + r, FULL, () -> Shapes.fullOnAllRoots(1),
                x -> x.make(r, 7777));
            refusedOn("promise 2: full list, make " + r, FULL, () -> Shapes.list(3, Shapes.ROOM),
                x -> x.make(r, 7777));
            refusedOn("promise 2: full tree, make " + r, FULL, () -> Shapes.fullTree(8), x -> x.make(r, 7777));
        }
    }

    private static void badRootComesBeforeFull() {
        for (int bad : Shapes.BAD_ROOTS) {
            refusedOn("promise 2: full, make " + bad, BAD_ROOT, () -> Shapes.fullOnAllRoots(1),
                x -> x.make(bad, 7777));
        }
    }

    // On the objects of roots 0 to 3, with roots 4 to 7 empty.
    private static void refused(String what, int want, ToIntFunction<CountedHeap> call) {
        refusedOn(what, want, () -> Shapes.threeFields(1), call);
    }

    private static void refusedOn(String what, int want, Supplier<CountedHeap> build,
            ToIntFunction<CountedHeap> call) {
        try {
            Check.due(what, call.applyAsInt(build.get()), want);
            Picture.due(what + " is refused and changes nothing", () -> {
                CountedHeap x = build.get();
                call.applyAsInt(x);
                return x;
            }, build);
        } catch (RuntimeException thrown) {
            Check.report(what + " threw " + thrown);
        }
    }
}
