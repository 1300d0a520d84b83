import java.util.function.Consumer;
import java.util.function.IntConsumer;

/** The room for 24 reachable objects, and that when and how it is reclaimed can't be seen. */
public final class RoomBoundaryTest {
    private static final int FULL = -4;
    private static final int ROOM = Shapes.ROOM;

    private RoomBoundaryTest() {
    }

    public static void main(String[] args) {
        for (int step : Shapes.STEPS) {
            test("promise 1: the step changes no answer", step, RoomBoundaryTest::stepChangesNothing);
            test("promise 2: room for 24, then FULL", step, RoomBoundaryTest::twentyFourFitAndNoMore);
            test("promise 2: what root r refers to still counts", step,
                RoomBoundaryTest::rootRStillRefersToWhatItDoes);
            test("promise 2: at 23 a root may be made anew for ever", step,
                RoomBoundaryTest::makeOverTheOnlyHolderAt23);
            test("promise 2: one let go, by whichever call, is room for one", step,
                RoomBoundaryTest::oneLetGoMakesRoomForOne);
            test("promise 2: so many let go are room for as many", step,
                RoomBoundaryTest::eachNumberLetGoMakesRoomForAsMany);
            test("promise 2: all let go are room for 24", step, RoomBoundaryTest::allLetGoMakesRoomForAll);
            test("promise 2: rings that no root reaches don't count", step,
                RoomBoundaryTest::ringsAndSelfReferencesDoNotCount);
            test("promise 2: what refers to the living, but isn't reached, doesn't count", step,
                RoomBoundaryTest::garbageThatRefersToTheLivingDoesNotCount);
            test("promise 2: room is reclaimed round and round", step,
                RoomBoundaryTest::roomIsReclaimedRoundAndRound);
            test("promise 2: an object in reclaimed room is like new", step, RoomBoundaryTest::reusedRoomIsLikeNew);
            test("promise 8: collect changes nothing", step, RoomBoundaryTest::collectChangesNothing);
            test("promise 8: collect changes nothing at any point of a run", step,
                RoomBoundaryTest::collectAtAnyPointChangesNothing);
            test("promises 2 and 12: the 512th call is still answered", step,
                RoomBoundaryTest::the512thCallIsStillAnswered);
            test("promises 2 to 15: later calls end without a throw", step, RoomBoundaryTest::laterCallsEnd);
        }
        Check.end();
    }

    private static void test(String name, int step, IntConsumer body) {
        Check.test(name + ", step " + step, () -> body.accept(step));
    }

    // "The heap has room for 24 reachable objects", "if there are 24 reachable objects: FULL".
    private static void twentyFourFitAndNoMore(int step) {
        String at = "promise 2, step " + step + ": ";
        CountedHeap x = new CountedHeap(step);
        for (int i = 1; i <= ROOM; i++) {
            Check.due(at + "make number " + i, Shapes.push(x, 0, 1, i), 0);
            Check.due("promise 12, step " + step + ": after make number " + i, x.reachable(), i);
        }
        isFull(at + "list of 24", x, ROOM * (ROOM + 1) / 2);
        isFull(at + "tree of 24", Shapes.fullTree(step), ROOM * (ROOM + 1) / 2);
        isFull(at + "24 on all roots", Shapes.fullOnAllRoots(step), 17 * 18 / 2 + 7028);
    }

    private static void isFull(String what, CountedHeap x, int sum) {
        for (int r = 0; r < Shapes.ROOTS; r++) {
            Check.due(what + ", make " + r, x.make(r, 99), FULL);
        }
        Check.due(what + ", reachable", x.reachable(), ROOM);
        Check.due(what + ", sum", x.sum(), sum);
    }

    // "as things stand before the call, root r still referring to what it does"
    private static void rootRStillRefersToWhatItDoes(int step) {
        for (int r = 0; r < Shapes.ROOTS; r++) {
            String at = "promise 2, step " + step + ": root " + r;
            CountedHeap x = Shapes.fullOnAllRoots(step);
            int payload = x.payload(r);
            Check.due(at + " alone holds an object that counts", x.make(r, 99), FULL);
            Check.due(at + " still holds it", x.payload(r), payload);
            x.drop(r);
            Check.due(at + " holds none any more", x.make(r, 99), 0);
            Check.due(at + " holds the new one", x.payload(r), 99);
        }
    }

    private static void makeOverTheOnlyHolderAt23(int step) {
        String at = "promise 2, step " + step + ": ";
        CountedHeap x = Shapes.list(step, ROOM - 2);
        for (int i = 0; i < 100; i++) {
            Check.due(at + "make over, at 23, time " + i, x.make(7, 5000 + i), 0);
            Check.due(at + "the new one, time " + i, x.payload(7), 5000 + i);
        }
        Check.due(at + "what was overwritten doesn't count", x.reachable(), ROOM - 1);
        Check.due(at + "the 24th", x.make(6, 1), 0);
        Check.due(at + "make over, at 24", x.make(7, 2), FULL);
        Check.due(at + "what it would have overwritten", x.payload(7), 5099);
    }

    // "what can't be reached any more never counts", whichever call let go of it.
    private static void oneLetGoMakesRoomForOne(int step) {
        String at = "promise 2, step " + step + ": ";
        roomForOne(at + "after drop", Shapes.fullOnAllRoots(step), x -> x.drop(4));
        roomForOne(at + "after copyRoot over it", Shapes.fullOnAllRoots(step), x -> x.copyRoot(3, 4));
        roomForOne(at + "after copyRoot of nothing over it", emptyRoot7(step), x -> x.copyRoot(7, 4));
        roomForOne(at + "after load over it", Shapes.fullOnAllRoots(step), x -> x.load(0, 0, 4));
        roomForOne(at + "after load of nothing over it", Shapes.fullOnAllRoots(step), x -> x.load(3, 2, 4));
        roomForOne(at + "after load past it", Shapes.list(step, ROOM), x -> x.load(0, 0, 0));
        for (int number = 0; number < Shapes.FIELDS; number++) {
            int field = number;
            roomForOne(at + "after store over field " + field, heldByAField(step, field),
                x -> x.store(0, field, 0));
            roomForOne(at + "after store of nothing over field " + field, heldByAField(step, field),
                x -> x.store(0, field, 6));
        }
    }

    // In each case root 4 then holds nothing that isn't held elsewhere too.
    private static void roomForOne(String what, CountedHeap x, Consumer<CountedHeap> letGo) {
        Check.due(what + ": before", x.make(4, 1), FULL);
        letGo.accept(x);
        Check.due(what + ": 23 left", x.reachable(), ROOM - 1);
        int sum = x.sum();
        Check.due(what + ": room for one", x.make(4, 30), 0);
        Check.due(what + ": nothing living was lost", x.sum(), sum + 30);
        Check.due(what + ": and no more", x.make(5, 1), FULL);
    }

    // 24 objects, with root 7 empty.
    private static CountedHeap emptyRoot7(int step) {
        CountedHeap x = Shapes.fullOnAllRoots(step);
        x.drop(7);
        Shapes.push(x, 0, 7, 18);
        x.drop(7);
        return x;
    }

    // 24 objects, one of them held by this field of root 0's object alone; root 6 is empty.
    private static CountedHeap heldByAField(int step, int field) {
        CountedHeap x = Shapes.list(step, ROOM - 2);
        x.make(1, 200);
        x.store(1, (field + 1) % Shapes.FIELDS, 0);
        x.copyRoot(1, 0);
        x.make(1, 201);
        x.store(0, field, 1);
        x.drop(1);
        return x;
    }

    private static void eachNumberLetGoMakesRoomForAsMany(int step) {
        for (int gone = 1; gone <= ROOM; gone++) {
            String at = "promise 2, step " + step + ", " + gone + " let go: ";
            CountedHeap x = Shapes.list(step, ROOM);
            for (int i = 0; i < gone; i++) {
                x.load(0, 0, 0);
            }
            int left = ROOM - gone;
            Check.due(at + "left", x.reachable(), left);
            for (int i = 0; i < gone; i++) {
                Check.due(at + "make number " + i, Shapes.push(x, 2, 1, 100), 0);
            }
            Check.due(at + "full again", x.make(7, 1), FULL);
            Check.due(at + "sum", x.sum(), left * (left + 1) / 2 + gone * 100);
            Check.due(at + "the old ones", x.reachableFrom(0), left);
            Check.due(at + "the new ones", x.reachableFrom(2), gone);
        }
    }

    private static void allLetGoMakesRoomForAll(int step) {
        String at = "promise 2, step " + step + ": ";
        CountedHeap x = Shapes.fullTree(step);
        for (int turn = 0; turn < 3; turn++) {
            x.drop(0);
            x.drop(1);
            Check.due("promise 12, step " + step + ": none left", x.reachable(), 0);
            Check.due("promise 15, step " + step + ": none left", x.sum(), 0);
            for (int i = 1; i <= ROOM; i++) {
                Check.due(at + "turn " + turn + ", make number " + i, Shapes.push(x, 0, 1, i), 0);
            }
            Check.due(at + "turn " + turn + ", full", x.make(5, 1), FULL);
        }
    }

    private static void ringsAndSelfReferencesDoNotCount(int step) {
        String at = "promise 2, step " + step + ": ";
        for (int field = 0; field < Shapes.FIELDS; field++) {
            CountedHeap x = new CountedHeap(step);
            for (int i = 0; i < 40; i++) {
                Check.due(at + "after " + i + " self-references", x.make(0, i), 0);
                x.store(0, field, 0);
            }
            for (int i = 0; i < 40; i++) {
                Check.due(at + "after " + i + " rings, one", x.make(0, i), 0);
                Check.due(at + "after " + i + " rings, other", x.make(1, i), 0);
                x.store(0, field, 1);
                x.store(1, field, 0);
            }
            Check.due("promise 12, step " + step + ": one ring is held", x.reachable(), 2);
        }
        CountedHeap x = Shapes.list(step, ROOM);
        x.copyRoot(0, 1);
        for (int i = 1; i < ROOM; i++) {
            x.load(1, 0, 1);
        }
        x.store(1, 2, 0);
        x.drop(0);
        Check.due(at + "the ring of 24 is held at its end", x.make(0, 1), FULL);
        x.drop(1);
        Check.due("promise 12, step " + step + ": the ring of 24 is let go", x.reachable(), 0);
        for (int i = 1; i <= ROOM; i++) {
            Check.due(at + "after the ring of 24, make number " + i, Shapes.push(x, 0, 1, i), 0);
        }
        Check.due(at + "after the ring of 24, full", x.make(0, 1), FULL);
    }

    private static void garbageThatRefersToTheLivingDoesNotCount(int step) {
        String at = "promise 2, step " + step + ": ";
        CountedHeap x = Shapes.list(step, ROOM - 1);
        for (int i = 0; i < 60; i++) {
            Check.due(at + "in front of the living, time " + i, x.make(3, i), 0);
            x.store(3, i % Shapes.FIELDS, 0);
            x.drop(3);
        }
        Check.due(at + "the living stay", x.reachableFrom(0), ROOM - 1);
        Check.due("promise 12, step " + step + ": only the living", x.reachable(), ROOM - 1);
        Check.due("promise 15, step " + step + ": only the living", x.sum(), (ROOM - 1) * ROOM / 2);
    }

    // A list of 20 as a queue: the oldest object goes, a new one comes, all round the heap several times.
    private static void roomIsReclaimedRoundAndRound(int step) {
        String at = "promise 2, step " + step + ": ";
        int length = 20;
        CountedHeap x = new CountedHeap(step);
        x.make(0, 0);
        x.copyRoot(0, 1);
        for (int i = 1; i <= 100; i++) {
            Check.due(at + "queue, make number " + i, x.make(2, i), 0);
            x.store(1, i % Shapes.FIELDS, 2);
            x.copyRoot(2, 1);
            if (i >= length) {
                x.load(0, (i - length + 1) % Shapes.FIELDS, 0);
            }
        }
        Check.due(at + "queue, its first", x.payload(0), 81);
        Check.due(at + "queue, its last", x.payload(1), 100);
        Check.due("promise 14, step " + step + ": queue", x.distance(0, 1), length - 1);
        Check.due("promise 12, step " + step + ": queue", x.reachable(), length);
        Check.due("promise 15, step " + step + ": queue", x.sum(), (81 + 100) * length / 2);
    }

    // "a new object with this payload, all its fields referring to nothing", though the room was used before.
    private static void reusedRoomIsLikeNew(int step) {
        String at = "promise 2, step " + step + ": ";
        CountedHeap x = new CountedHeap(step);
        x.make(7, 700);
        for (int i = 0; i < 50; i++) {
            x.make(0, i + 1);
            Check.due(at + "fields of object " + i, x.reachableFrom(0), 1);
            Check.due(at + "payload of object " + i, x.payload(0), i + 1);
            for (int field = 0; field < Shapes.FIELDS; field++) {
                x.store(0, field, 7);
            }
        }
        x.make(0, 0);
        Check.due(at + "payload 0 of a late object", x.payload(0), 0);
        for (int field = 0; field < Shapes.FIELDS; field++) {
            x.load(0, field, 1);
            Check.due(at + "field " + field + " of a late object", x.held(1), false);
        }
    }

    // "it changes nothing that any call answers", below 1, in 1 to 8 and above 8.
    private static void stepChangesNothing(int step) {
        String at = "promise 1, step " + step + ": ";
        Picture.due(at + "new", () -> new CountedHeap(step), () -> new CountedHeap(4));
        Picture.due(at + "three fields", () -> Shapes.threeFields(step), () -> Shapes.threeFields(4));
        Picture.due(at + "full", () -> Shapes.fullOnAllRoots(step), () -> Shapes.fullOnAllRoots(4));
        Picture.due(at + "used", () -> used(step, 0), () -> used(4, 0));
    }

    // "The heap may clean up. Changes nothing that any other call answers."
    private static void collectChangesNothing(int step) {
        String at = "promise 8, step " + step + ": ";
        Picture.due(at + "new", () -> collected(new CountedHeap(step)), () -> new CountedHeap(step));
        Picture.due(at + "three fields", () -> collected(Shapes.threeFields(step)), () -> Shapes.threeFields(step));
        Picture.due(at + "full", () -> collected(Shapes.fullOnAllRoots(step)), () -> Shapes.fullOnAllRoots(step));
        Picture.due(at + "full tree", () -> collected(Shapes.fullTree(step)), () -> Shapes.fullTree(step));
        Picture.due(at + "used", () -> collected(used(step, 0)), () -> used(step, 0));
    }

    private static void collectAtAnyPointChangesNothing(int step) {
        String at = "promise 8, step " + step + ": ";
        Picture.due(at + "at each turn", () -> used(step, 1), () -> used(step, 0));
        Picture.due(at + "at each third turn", () -> used(step, 3), () -> used(step, 0));
    }

    private static CountedHeap collected(CountedHeap x) {
        for (int i = 0; i < 30; i++) {
            x.collect();
        }
        return x;
    }

    // Much garbage and 15 living objects, all in one structure; collects at each so many turns (0: never).
    private static CountedHeap used(int step, int collectEvery) {
        CountedHeap x = new CountedHeap(step);
        for (int i = 0; i < 45; i++) {
            x.make(i % 7, 100 + i);
            if (i % 3 == 0) {
                x.store(i % 7, i / 3 % Shapes.FIELDS, 7);
                x.copyRoot(i % 7, 7);
            }
            if (collectEvery > 0 && i % collectEvery == 0) {
                x.collect();
            }
        }
        for (int r = 0; r < 7; r++) {
            x.drop(r);
        }
        return x;
    }

    // "An object is used for at most 512 calls": the 512th is still promised.
    private static void the512thCallIsStillAnswered(int step) {
        String at = "promise 2, step " + step + ": ";
        CountedHeap x = new CountedHeap(step);
        while (x.calls() < CountedHeap.MOST_CALLS - 1) {
            Check.due(at + "make, call " + x.calls(), x.make(x.calls() % Shapes.ROOTS, x.calls()), 0);
        }
        Check.due("promise 12, step " + step + ": the 512th call", x.reachable(), Shapes.ROOTS);
        CountedHeap y = Shapes.list(step, ROOM);
        while (y.calls() < CountedHeap.MOST_CALLS) {
            Check.due(at + "full, call " + y.calls(), y.make(0, 1), FULL);
        }
    }

    // What later calls answer is free, but rule 7 of LANGUAGE.md has every call end without a throw.
    private static void laterCallsEnd(int step) {
        OlderFirstHeap x = new OlderFirstHeap(step);
        for (int i = 0; i < 3000; i++) {
            int r = i % 11 - 1;
            x.make(r, i);
            x.store(r, i % 5 - 1, i % 7);
            x.load(i % 8, i % 3, r);
            x.copyRoot(i % 8, r);
            x.collect();
            x.reachable();
            x.reachableFrom(r);
            x.distance(r, i % 8);
            x.sum();
        }
    }
}
