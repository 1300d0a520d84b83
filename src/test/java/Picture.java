import java.util.ArrayDeque;
import java.util.Arrays;
import java.util.HashSet;
import java.util.Set;
import java.util.function.Supplier;

/**
 * All that can be asked of a heap, in one text: two heaps with the same picture can't be told apart.
 *
 * Looking through the fields changes roots, so each look is taken at a heap built anew. Objects are told
 * apart by their payloads, so each must have its own.
 */
final class Picture {
    private final Supplier<CountedHeap> build;
    private final StringBuilder text = new StringBuilder();

    private Picture(Supplier<CountedHeap> build) {
        this.build = build;
    }

    static String of(Supplier<CountedHeap> build) {
        Picture picture = new Picture(build);
        picture.answers();
        picture.objects();
        picture.roomLeft();
        return picture.text.toString();
    }

    static void due(String what, Supplier<CountedHeap> got, Supplier<CountedHeap> want) {
        due(what, of(got), of(want));
    }

    static void due(String what, String got, String want) {
        if (got.equals(want)) {
            return;
        }
        String[] gotLines = got.split("\n");
        String[] wantLines = want.split("\n");
        int line = 0;
        while (line < gotLines.length && line < wantLines.length && gotLines[line].equals(wantLines[line])) {
            line++;
        }
        Check.report(what + ": the heap shows <" + (line < gotLines.length ? gotLines[line] : "") + ">, due is <"
            + (line < wantLines.length ? wantLines[line] : "") + ">");
    }

    private void answers() {
        CountedHeap x = build.get();
        text.append("reachable ").append(x.reachable()).append(" sum ").append(x.sum()).append('\n');
        for (int a = 0; a < Shapes.ROOTS; a++) {
            text.append("root ").append(a).append(": ").append(x.payload(a)).append(' ').append(x.held(a));
            text.append(' ').append(x.reachableFrom(a)).append(':');
            for (int b = 0; b < Shapes.ROOTS; b++) {
                text.append(' ').append(x.distance(a, b)).append(x.same(a, b) ? "=" : "");
            }
            text.append('\n');
        }
    }

    // A way is a root and the fields to follow from it.
    private void objects() {
        ArrayDeque<int[]> ways = new ArrayDeque<>();
        Set<Integer> known = new HashSet<>();
        for (int r = 0; r < Shapes.ROOTS; r++) {
            ways.add(new int[] {r});
        }
        while (!ways.isEmpty()) {
            int[] way = ways.remove();
            CountedHeap x = build.get();
            for (int i = 1; i < way.length; i++) {
                x.load(way[0], way[i], way[0]);
            }
            boolean there = x.held(way[0]);
            int payload = x.payload(way[0]);
            text.append(Arrays.toString(way)).append(there ? " object " + payload : " nothing").append('\n');
            if (there && known.add(payload)) {
                for (int field = 0; field < Shapes.FIELDS; field++) {
                    int[] further = Arrays.copyOf(way, way.length + 1);
                    further[way.length] = field;
                    ways.add(further);
                }
            }
        }
    }

    // How many objects can be put in front of what root 0 holds, and what is there then.
    private void roomLeft() {
        CountedHeap x = build.get();
        int made = 0;
        while (made <= Shapes.ROOM && x.make(1, -1000 - made) == 0) {
            x.store(1, 0, 0);
            x.copyRoot(1, 0);
            made++;
        }
        text.append("room for ").append(made).append(", then ").append(x.reachable());
        text.append(" with sum ").append(x.sum()).append('\n');
    }
}
