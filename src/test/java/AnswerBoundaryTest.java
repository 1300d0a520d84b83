import java.util.function.Consumer;
import java.util.function.Supplier;

/** The edges that the document names for the calls that only answer: promises 9 to 15. */
public final class AnswerBoundaryTest {
    private static final int NOTHING = -3;
    private static final int EMPTY = 5;
    private static final int ROOM = Shapes.ROOM;

    private AnswerBoundaryTest() {
    }

    public static void main(String[] args) {
        Check.test("promise 9: 0 if r is out of range", AnswerBoundaryTest::payloadOutOfRange);
        Check.test("promise 9: 0 if r refers to nothing", AnswerBoundaryTest::payloadOfNothing);
        Check.test("promise 9: roots 0 and 7, least and greatest payload",
            AnswerBoundaryTest::payloadOfFirstAndLastRoot);
        Check.test("promise 10: false if r is out of range", AnswerBoundaryTest::heldOutOfRange);
        Check.test("promise 10: roots 0 and 7, payload 0", AnswerBoundaryTest::heldAtBothEnds);
        Check.test("promise 11: false if one is out of range", AnswerBoundaryTest::sameOutOfRange);
        Check.test("promise 11: false if one refers to nothing", AnswerBoundaryTest::sameOfNothing);
        Check.test("promise 11: the same object, not a like one", AnswerBoundaryTest::sameIsOfObjectsNotPayloads);
        Check.test("promise 12: none reachable", AnswerBoundaryTest::reachableOfNone);
        Check.test("promise 12: each object counts once, up to 24", AnswerBoundaryTest::reachableCountsEachOnce);
        Check.test("promise 12: what no root reaches doesn't count",
            AnswerBoundaryTest::reachableLeavesOutWhatNoRootReaches);
        Check.test("promise 13: 0 if r is out of range", AnswerBoundaryTest::reachableFromOutOfRange);
        Check.test("promise 13: 0 if r refers to nothing", AnswerBoundaryTest::reachableFromNothing);
        Check.test("promise 13: from root r alone, its object counted in",
            AnswerBoundaryTest::reachableFromRootAlone);
        Check.test("promise 13: by every field", AnswerBoundaryTest::reachableFromFollowsEveryField);
        Check.test("promise 14: NOTHING if a or b is out of range", AnswerBoundaryTest::distanceOutOfRange);
        Check.test("promise 14: NOTHING if a or b refers to nothing", AnswerBoundaryTest::distanceOfNothing);
        Check.test("promise 14: 0 if they are the same", AnswerBoundaryTest::distanceToTheSame);
        Check.test("promise 14: NOTHING if there is no way", AnswerBoundaryTest::distanceWithoutAWay);
        Check.test("promise 14: the least number of fields", AnswerBoundaryTest::distanceIsTheLeast);
        Check.test("promise 14: up to 23 fields", AnswerBoundaryTest::distanceAtItsGreatest);
        Check.test("promise 15: none reachable", AnswerBoundaryTest::sumOfNone);
        Check.test("promise 15: wrapping", AnswerBoundaryTest::sumWraps);
        Check.test("promise 15: each object counts once", AnswerBoundaryTest::sumCountsEachOnce);
        Check.test("promise 15: what no root reaches doesn't count",
            AnswerBoundaryTest::sumLeavesOutWhatNoRootReaches);
        Check.test("promises 9 to 15: the calls change nothing that any call answers",
            AnswerBoundaryTest::questionsChangeNothing);
        Check.test("promises 9 to 15: nor do they between the calls that change the heap",
            AnswerBoundaryTest::questionsBetweenChangesChangeNothing);
        Check.end();
    }

    // "0 if r is out of range"
    private static void payloadOutOfRange() {
        CountedHeap x = Shapes.fullOnAllRoots(1);
        for (int bad : Shapes.BAD_ROOTS) {
            Check.due("promise 9: payload(" + bad + ")", x.payload(bad), 0);
        }
    }

    // "or refers to nothing": before the first object, and where there was one.
    private static void payloadOfNothing() {
        CountedHeap x = new CountedHeap(1);
        for (int r = 0; r < Shapes.ROOTS; r++) {
            Check.due("promise 9: never held, payload(" + r + ")", x.payload(r), 0);
            x.make(r, 40 + r);
        }
        for (int r = 0; r < Shapes.ROOTS; r++) {
            x.drop(r);
            Check.due("promise 9: dropped, payload(" + r + ")", x.payload(r), 0);
        }
    }

    private static void payloadOfFirstAndLastRoot() {
        CountedHeap x = new CountedHeap(1);
        x.make(0, Integer.MIN_VALUE);
        x.make(7, Integer.MAX_VALUE);
        Check.due("promise 9: payload(0)", x.payload(0), Integer.MIN_VALUE);
        Check.due("promise 9: payload(7)", x.payload(7), Integer.MAX_VALUE);
    }

    // "false if r is out of range"
    private static void heldOutOfRange() {
        CountedHeap x = Shapes.fullOnAllRoots(1);
        for (int bad : Shapes.BAD_ROOTS) {
            Check.due("promise 10: held(" + bad + ")", x.held(bad), false);
        }
    }

    private static void heldAtBothEnds() {
        CountedHeap x = new CountedHeap(1);
        x.make(0, 0);
        x.make(7, 0);
        Check.due("promise 10: held(0), payload 0", x.held(0), true);
        Check.due("promise 10: held(7), payload 0", x.held(7), true);
        Check.due("promise 10: held(1)", x.held(1), false);
        Check.due("promise 10: held(6)", x.held(6), false);
        x.copyRoot(1, 0);
        x.load(7, 0, 7);
        Check.due("promise 10: held(0) after nothing was copied", x.held(0), false);
        Check.due("promise 10: held(7) after nothing was loaded", x.held(7), false);
    }

    // "false if one is out of range", also with the like number twice.
    private static void sameOutOfRange() {
        CountedHeap x = Shapes.threeFields(1);
        for (int bad : Shapes.BAD_ROOTS) {
            Check.due("promise 11: same(" + bad + ", 0)", x.same(bad, 0), false);
            Check.due("promise 11: same(0, " + bad + ")", x.same(0, bad), false);
            Check.due("promise 11: same(" + bad + ", " + bad + ")", x.same(bad, bad), false);
            Check.due("promise 11: same(" + bad + ", empty)", x.same(bad, EMPTY), false);
            Check.due("promise 11: same(empty, " + bad + ")", x.same(EMPTY, bad), false);
        }
    }

    // "or refers to nothing": two roots that refer to nothing are not the same either.
    private static void sameOfNothing() {
        CountedHeap x = Shapes.threeFields(1);
        for (int held = 0; held < 4; held++) {
            Check.due("promise 11: same(" + held + ", empty)", x.same(held, EMPTY), false);
            Check.due("promise 11: same(empty, " + held + ")", x.same(EMPTY, held), false);
        }
        Check.due("promise 11: two empty ones", x.same(EMPTY, 6), false);
        Check.due("promise 11: empty with itself", x.same(EMPTY, EMPTY), false);
    }

    private static void sameIsOfObjectsNotPayloads() {
        CountedHeap x = new CountedHeap(1);
        x.make(0, 5);
        x.make(7, 5);
        Check.due("promise 11: like payloads", x.same(0, 7), false);
        Check.due("promise 11: with itself", x.same(7, 7), true);
        x.copyRoot(7, 0);
        Check.due("promise 11: copied", x.same(0, 7), true);
        x.store(0, 2, 7);
        x.load(7, 2, 3);
        Check.due("promise 11: by way of a field", x.same(3, 0), true);
    }

    private static void reachableOfNone() {
        CountedHeap x = new CountedHeap(1);
        Check.due("promise 12: new", x.reachable(), 0);
        x.make(0, 1);
        Check.due("promise 12: one", x.reachable(), 1);
        x.drop(0);
        Check.due("promise 12: let go", x.reachable(), 0);
    }

    private static void reachableCountsEachOnce() {
        CountedHeap x = new CountedHeap(1);
        x.make(0, 1);
        for (int r = 0; r < Shapes.ROOTS; r++) {
            x.copyRoot(0, r);
        }
        for (int field = 0; field < Shapes.FIELDS; field++) {
            x.store(0, field, 7);
        }
        Check.due("promise 12: one object on all roots and its own fields", x.reachable(), 1);
        Check.due("promise 12: tree of 24", Shapes.fullTree(1).reachable(), ROOM);
        Check.due("promise 12: 24 on all roots", Shapes.fullOnAllRoots(1).reachable(), ROOM);
    }

    // "if a root refers to it or a reference field of a reachable object does": no other field will do.
    private static void reachableLeavesOutWhatNoRootReaches() {
        for (int field = 0; field < Shapes.FIELDS; field++) {
            CountedHeap x = new CountedHeap(1);
            x.make(0, 1);
            x.make(1, 2);
            x.store(0, field, 1);
            x.store(1, field, 1);
            x.drop(1);
            Check.due("promise 12: by way of field " + field, x.reachable(), 2);
            x.drop(0);
            Check.due("promise 12: held by itself and an unreachable one, field " + field, x.reachable(), 0);
        }
    }

    // "0 if r is out of range"
    private static void reachableFromOutOfRange() {
        CountedHeap x = Shapes.fullOnAllRoots(1);
        for (int bad : Shapes.BAD_ROOTS) {
            Check.due("promise 13: reachableFrom(" + bad + ")", x.reachableFrom(bad), 0);
        }
    }

    // "or refers to nothing"
    private static void reachableFromNothing() {
        CountedHeap x = Shapes.threeFields(1);
        for (int r = 4; r < Shapes.ROOTS; r++) {
            Check.due("promise 13: never held, reachableFrom(" + r + ")", x.reachableFrom(r), 0);
        }
        x.drop(0);
        Check.due("promise 13: dropped, reachableFrom(0)", x.reachableFrom(0), 0);
    }

    // "from root r alone (its object counted in)"
    private static void reachableFromRootAlone() {
        CountedHeap x = Shapes.fullOnAllRoots(1);
        Check.due("promise 13: from root 0", x.reachableFrom(0), 17);
        for (int r = 1; r < Shapes.ROOTS; r++) {
            Check.due("promise 13: from root " + r, x.reachableFrom(r), 1);
        }
        x.store(7, 2, 0);
        Check.due("promise 13: from root 7 by way of 0", x.reachableFrom(7), 18);
        Check.due("promise 13: not back from root 0", x.reachableFrom(0), 17);
        x.store(7, 1, 7);
        x.store(7, 0, 0);
        Check.due("promise 13: each counted once", x.reachableFrom(7), 18);
        Check.due("promise 13: all 24", Shapes.fullTree(1).reachableFrom(0), ROOM);
    }

    private static void reachableFromFollowsEveryField() {
        CountedHeap x = Shapes.threeFields(1);
        Check.due("promise 13: three fields", x.reachableFrom(0), 4);
        for (int field = 0; field < Shapes.FIELDS; field++) {
            x.store(0, field, 7);
            Check.due("promise 13: after field " + field, x.reachableFrom(0), 3 - field);
        }
    }

    // "NOTHING if there is no way, a or b is out of range"
    private static void distanceOutOfRange() {
        CountedHeap x = Shapes.threeFields(1);
        for (int bad : Shapes.BAD_ROOTS) {
            Check.due("promise 14: distance(" + bad + ", 0)", x.distance(bad, 0), NOTHING);
            Check.due("promise 14: distance(0, " + bad + ")", x.distance(0, bad), NOTHING);
            Check.due("promise 14: distance(" + bad + ", " + bad + ")", x.distance(bad, bad), NOTHING);
            Check.due("promise 14: distance(" + bad + ", empty)", x.distance(bad, EMPTY), NOTHING);
            Check.due("promise 14: distance(empty, " + bad + ")", x.distance(EMPTY, bad), NOTHING);
        }
    }

    // "or refers to nothing": a field that refers to nothing is no way to a root that does.
    private static void distanceOfNothing() {
        CountedHeap x = Shapes.threeFields(1);
        for (int r = 0; r < 4; r++) {
            Check.due("promise 14: distance(" + r + ", empty)", x.distance(r, EMPTY), NOTHING);
            Check.due("promise 14: distance(empty, " + r + ")", x.distance(EMPTY, r), NOTHING);
        }
        Check.due("promise 14: two empty ones", x.distance(EMPTY, 6), NOTHING);
        Check.due("promise 14: empty to itself", x.distance(EMPTY, EMPTY), NOTHING);
    }

    // "(0 if they are the same)"
    private static void distanceToTheSame() {
        CountedHeap x = Shapes.threeFields(1);
        x.copyRoot(1, 7);
        Check.due("promise 14: one root twice", x.distance(0, 0), 0);
        Check.due("promise 14: two roots of one object", x.distance(1, 7), 0);
        x.store(1, 0, 1);
        Check.due("promise 14: one that refers to itself", x.distance(1, 1), 0);
        x.store(1, 1, 0);
        Check.due("promise 14: one in a ring", x.distance(0, 0), 0);
    }

    // "NOTHING if there is no way": a way leads along the references, not against them, and not by roots.
    private static void distanceWithoutAWay() {
        CountedHeap x = Shapes.threeFields(1);
        for (int r = 1; r < 4; r++) {
            Check.due("promise 14: there, " + r, x.distance(0, r), 1);
            Check.due("promise 14: not back, " + r, x.distance(r, 0), NOTHING);
        }
        Check.due("promise 14: two of one parent", x.distance(1, 2), NOTHING);
        x.store(0, 0, 7);
        Check.due("promise 14: the way is cut", x.distance(0, 1), NOTHING);
    }

    // "The least number of reference fields": whichever field the shorter way begins with.
    private static void distanceIsTheLeast() {
        for (int field = 0; field < Shapes.FIELDS; field++) {
            CountedHeap x = Shapes.list(1, 6);
            x.copyRoot(0, 7);
            for (int i = 1; i < 6; i++) {
                x.load(7, 0, 7);
            }
            Check.due("promise 14: along the list", x.distance(0, 7), 5);
            x.make(1, 60);
            x.store(1, field, 0);
            Check.due("promise 14: one further, field " + field, x.distance(1, 7), 6);
            x.make(2, 61);
            x.store(1, (field + 1) % Shapes.FIELDS, 2);
            x.store(2, field, 7);
            Check.due("promise 14: shorter by another field than " + field, x.distance(1, 7), 2);
            x.store(1, (field + 2) % Shapes.FIELDS, 7);
            Check.due("promise 14: shortest by the third field", x.distance(1, 7), 1);
        }
    }

    private static void distanceAtItsGreatest() {
        CountedHeap x = Shapes.list(1, ROOM);
        x.copyRoot(0, 7);
        for (int i = 1; i < ROOM; i++) {
            x.load(7, 0, 7);
            Check.due("promise 14: so far along the list", x.distance(0, 7), i);
        }
        x.store(7, 2, 0);
        Check.due("promise 14: all round the ring of 24", x.distance(0, 7), ROOM - 1);
        Check.due("promise 14: one field back", x.distance(7, 0), 1);
    }

    private static void sumOfNone() {
        CountedHeap x = new CountedHeap(1);
        Check.due("promise 15: new", x.sum(), 0);
        x.make(0, 9);
        x.drop(0);
        Check.due("promise 15: let go", x.sum(), 0);
    }

    // "(wrapping)"
    private static void sumWraps() {
        CountedHeap x = new CountedHeap(1);
        x.make(0, Integer.MAX_VALUE);
        Check.due("promise 15: greatest", x.sum(), Integer.MAX_VALUE);
        x.make(1, 1);
        Check.due("promise 15: one above", x.sum(), Integer.MIN_VALUE);
        x.setPayload(0, Integer.MIN_VALUE);
        x.setPayload(1, 0);
        Check.due("promise 15: least", x.sum(), Integer.MIN_VALUE);
        x.setPayload(1, -1);
        Check.due("promise 15: one below", x.sum(), Integer.MAX_VALUE);
        x.setPayload(1, Integer.MIN_VALUE);
        Check.due("promise 15: least twice", x.sum(), 0);
        CountedHeap y = new CountedHeap(1);
        for (int i = 0; i < ROOM; i++) {
            Shapes.push(y, 0, 1, Integer.MAX_VALUE);
            Check.due("promise 15: greatest, times " + (i + 1), y.sum(), (i + 1) * Integer.MAX_VALUE);
        }
    }

    private static void sumCountsEachOnce() {
        CountedHeap x = Shapes.threeFields(1);
        x.copyRoot(0, 7);
        x.store(1, 0, 0);
        x.store(2, 2, 2);
        Check.due("promise 15: four objects, held often", x.sum(), 406);
        Check.due("promise 15: tree of 24", Shapes.fullTree(1).sum(), ROOM * (ROOM + 1) / 2);
    }

    private static void sumLeavesOutWhatNoRootReaches() {
        CountedHeap x = Shapes.threeFields(1);
        x.drop(0);
        Check.due("promise 15: without the one let go", x.sum(), 306);
        x.store(1, 0, 2);
        x.store(2, 0, 1);
        x.drop(1);
        x.drop(2);
        Check.due("promise 15: without the ring let go", x.sum(), 103);
    }

    // "The calls below change nothing that any call answers": each of the seven, with good and bad roots.
    private static void questionsChangeNothing() {
        for (int number = -1; number <= Shapes.ROOTS; number++) {
            int r = number;
            changesNothing("promise 9: payload(" + r + ")", x -> x.payload(r));
            changesNothing("promise 10: held(" + r + ")", x -> x.held(r));
            changesNothing("promise 11: same(" + r + ", 0)", x -> x.same(r, 0));
            changesNothing("promise 11: same(0, " + r + ")", x -> x.same(0, r));
            changesNothing("promise 13: reachableFrom(" + r + ")", x -> x.reachableFrom(r));
            changesNothing("promise 14: distance(" + r + ", 0)", x -> x.distance(r, 0));
            changesNothing("promise 14: distance(0, " + r + ")", x -> x.distance(0, r));
        }
        changesNothing("promise 12: reachable()", CountedHeap::reachable);
        changesNothing("promise 15: sum()", CountedHeap::sum);
    }

    private static void changesNothing(String what, Consumer<CountedHeap> question) {
        changesNothing(what + ", three fields", () -> Shapes.threeFields(1), question);
        changesNothing(what + ", full", () -> Shapes.fullOnAllRoots(1), question);
        changesNothing(what + ", with garbage", () -> withGarbage(1), question);
    }

    private static void changesNothing(String what, Supplier<CountedHeap> build, Consumer<CountedHeap> question) {
        Picture.due(what + " changes nothing", () -> {
            CountedHeap x = build.get();
            question.accept(x);
            return x;
        }, build);
    }

    // 24 were made; 10 of them are left, at roots 0 and 3.
    private static CountedHeap withGarbage(int step) {
        CountedHeap x = Shapes.list(step, ROOM - 1);
        x.make(3, 300);
        for (int i = 0; i < 14; i++) {
            x.load(0, 0, 0);
        }
        return x;
    }

    // The heap may clean itself in any make; a question just before must not mislead it.
    private static void questionsBetweenChangesChangeNothing() {
        for (int step : Shapes.STEPS) {
            String plain = Picture.of(() -> refilled(step, x -> { }));
            asked("promise 9", step, plain, x -> x.payload(3));
            asked("promise 10", step, plain, x -> x.held(3));
            asked("promise 11", step, plain, x -> x.same(0, 3));
            asked("promise 12", step, plain, CountedHeap::reachable);
            asked("promise 13", step, plain, x -> x.reachableFrom(3));
            asked("promise 13, empty root", step, plain, x -> x.reachableFrom(7));
            asked("promise 14", step, plain, x -> x.distance(3, 0));
            asked("promise 15", step, plain, CountedHeap::sum);
        }
    }

    private static void asked(String promise, int step, String plain, Consumer<CountedHeap> question) {
        Picture.due(promise + ": asked before each make, step " + step, Picture.of(() -> refilled(step, question)),
            plain);
    }

    // The heap with garbage, filled up again at root 0, with the question before each make.
    private static CountedHeap refilled(int step, Consumer<CountedHeap> question) {
        CountedHeap x = withGarbage(step);
        for (int i = 0; i < 14; i++) {
            question.accept(x);
            Shapes.push(x, 0, 1, 400 + i);
        }
        question.accept(x);
        return x;
    }
}
