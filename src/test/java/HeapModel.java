import java.util.ArrayDeque;
import java.util.IdentityHashMap;
import java.util.Map;

/** The document's words over ordinary Java objects: the answers that OlderFirstHeap owes. */
final class HeapModel {
    private static final class Node {
        int payload;
        final Node[] fields = new Node[3];
    }

    private final Node[] roots = new Node[8];

    int make(int r, int payload) {
        if (badRoot(r)) {
            return -1;
        }
        if (reachable() == 24) {
            return -4;
        }
        roots[r] = new Node();
        roots[r].payload = payload;
        return 0;
    }

    int copyRoot(int from, int to) {
        if (badRoot(from) || badRoot(to)) {
            return -1;
        }
        roots[to] = roots[from];
        return 0;
    }

    int drop(int r) {
        if (badRoot(r)) {
            return -1;
        }
        roots[r] = null;
        return 0;
    }

    int load(int r, int field, int to) {
        int refusal = refusal(r, field, to);
        if (refusal == 0) {
            roots[to] = roots[r].fields[field];
        }
        return refusal;
    }

    int store(int r, int field, int from) {
        int refusal = refusal(r, field, from);
        if (refusal == 0) {
            roots[r].fields[field] = roots[from];
        }
        return refusal;
    }

    int setPayload(int r, int payload) {
        int refusal = refusal(r, 0, r);
        if (refusal == 0) {
            roots[r].payload = payload;
        }
        return refusal;
    }

    int payload(int r) {
        return held(r) ? roots[r].payload : 0;
    }

    boolean held(int r) {
        return !badRoot(r) && roots[r] != null;
    }

    boolean same(int a, int b) {
        return held(a) && held(b) && roots[a] == roots[b];
    }

    int reachable() {
        return distancesFrom(roots).size();
    }

    int reachableFrom(int r) {
        return held(r) ? distancesFrom(roots[r]).size() : 0;
    }

    int distance(int a, int b) {
        if (!held(a) || !held(b)) {
            return -3;
        }
        return distancesFrom(roots[a]).getOrDefault(roots[b], -3);
    }

    int sum() {
        int total = 0;
        for (Node node : distancesFrom(roots).keySet()) {
            total += node.payload;
        }
        return total;
    }

    private static boolean badRoot(int r) {
        return r < 0 || r > 7;
    }

    private int refusal(int r, int field, int other) {
        if (badRoot(r) || badRoot(other)) {
            return -1;
        }
        if (field < 0 || field > 2) {
            return -2;
        }
        return roots[r] == null ? -3 : 0;
    }

    private static Map<Node, Integer> distancesFrom(Node... starts) {
        Map<Node, Integer> distances = new IdentityHashMap<>();
        ArrayDeque<Node> waiting = new ArrayDeque<>();
        for (Node start : starts) {
            if (start != null && distances.putIfAbsent(start, 0) == null) {
                waiting.add(start);
            }
        }
        while (!waiting.isEmpty()) {
            Node node = waiting.remove();
            for (Node next : node.fields) {
                if (next != null && distances.putIfAbsent(next, distances.get(node) + 1) == null) {
                    waiting.add(next);
                }
            }
        }
        return distances;
    }
}
