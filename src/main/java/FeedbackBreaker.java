/** A small undirected graph, and the fewest vertices whose removal leaves no cycle in it. */
public final class FeedbackBreaker {
    private static final int FEWEST_VERTICES = 2;
    private static final int MOST_VERTICES = 9;
    private static final int PAIR_SLOTS = 81;
    private static final int MOST_EDGES_OF_PAIR = 2;
    private static final int MOST_STEP = 8;
    private static final int MOST_COUNT = 12;
    private static final int NONE = -1;

    private final int n;

    // Only the slots of pairs u <= v are used, so that each edge is held once.
    private final int[] edgesOfPair = new int[PAIR_SLOTS];

    // Scratch of excessWithin, which fills it anew each time: no answer depends on what it held.
    private final int[] treeOf = new int[MOST_VERTICES];

    private int keptSet = 0;

    public FeedbackBreaker(int vertices) {
        if (vertices < FEWEST_VERTICES) {
            n = FEWEST_VERTICES;
        } else if (vertices > MOST_VERTICES) {
            n = MOST_VERTICES;
        } else {
            n = vertices;
        }
    }

    public int vertices() {
        return n;
    }

    public int link(int u, int v, int many) {
        if (!isGood(u) || !isGood(v)) {
            return -1;
        }
        if (many < 0 || many > MOST_EDGES_OF_PAIR) {
            return -2;
        }
        int slot = slotOf(u, v);
        int before = edgesOfPair[slot];
        edgesOfPair[slot] = many;
        return before;
    }

    public int ring(int v, int step, int count) {
        if (!isGood(v)) {
            return -1;
        }
        if (step < 1 || step > MOST_STEP) {
            return -2;
        }
        if (count < 1 || count > MOST_COUNT) {
            return -3;
        }
        int from = v;
        for (int i = 0; i < count; i++) {
            int to = (from + step) % n;
            int slot = slotOf(from, to);
            if (edgesOfPair[slot] == 0) {
                edgesOfPair[slot] = 1;
            }
            from = to;
        }
        return countEdges();
    }

    public int keep(int v, int flag) {
        if (!isGood(v)) {
            return -1;
        }
        int before = (keptSet >> v) & 1;
        if (flag != 0) {
            keptSet |= 1 << v;
        } else {
            keptSet &= ~(1 << v);
        }
        return before;
    }

    public int edges() {
        return countEdges();
    }

    public int breaks(int set) {
        if (set < 0 || set > allVertices()) {
            return -1;
        }
        return leavesNoCycle(set) ? 1 : 0;
    }

    public int least() {
        int set = smallestBreaking(0, keptSet);
        return sizeOrNone(set);
    }

    public int first() {
        return smallestBreaking(0, keptSet);
    }

    public int breakers() {
        return countBreakersWith(0);
    }

    public int inBreakers(int v) {
        if (!isGood(v)) {
            return -1;
        }
        return countBreakersWith(1 << v);
    }

    public int leastWith(int v) {
        if (!isGood(v)) {
            return -2;
        }
        int set = smallestBreaking(1 << v, keptSet);
        return sizeOrNone(set);
    }

    public int leastWithout(int v) {
        if (!isGood(v)) {
            return -2;
        }
        int set = smallestBreaking(0, keptSet | (1 << v));
        return sizeOrNone(set);
    }

    // The vertices of a shortest cycle are a smallest set with a cycle inside it, and the
    // other way round, so the sizes of such sets are all that has to be looked at.
    public int girth() {
        int shortest = 0;
        int all = allVertices();
        for (int set = 1; set <= all; set++) {
            int size = sizeOf(set);
            if ((shortest == 0 || size < shortest) && excessWithin(set) > 0) {
                shortest = size;
            }
        }
        return shortest;
    }

    public int excess() {
        int all = allVertices();
        return excessWithin(all);
    }

    private boolean isGood(int v) {
        return v >= 0 && v < n;
    }

    private int allVertices() {
        return (1 << n) - 1;
    }

    private int slotOf(int u, int v) {
        return u <= v ? u * MOST_VERTICES + v : v * MOST_VERTICES + u;
    }

    private int countEdges() {
        int sum = 0;
        for (int slot = 0; slot < PAIR_SLOTS; slot++) {
            sum += edgesOfPair[slot];
        }
        return sum;
    }

    private int sizeOf(int set) {
        int size = 0;
        for (int v = 0; v < MOST_VERTICES; v++) {
            size += (set >> v) & 1;
        }
        return size;
    }

    private int sizeOrNone(int set) {
        return set == NONE ? NONE : sizeOf(set);
    }

    // Sets come in the order of their numbers and only a smaller one takes the place of the
    // best so far, so among those of the least size the one with the least number is answered.
    private int smallestBreaking(int wanted, int barred) {
        int best = NONE;
        int bestSize = MOST_VERTICES + 1;
        int all = allVertices();
        for (int set = 0; set <= all; set++) {
            if ((set & wanted) == wanted && (set & barred) == 0) {
                int size = sizeOf(set);
                if (size < bestSize && leavesNoCycle(set)) {
                    best = set;
                    bestSize = size;
                }
            }
        }
        return best;
    }

    private int countBreakersWith(int wanted) {
        int smallest = smallestBreaking(0, keptSet);
        if (smallest == NONE) {
            return 0;
        }
        int size = sizeOf(smallest);
        int all = allVertices();
        int found = 0;
        for (int set = smallest; set <= all; set++) {
            boolean asked = (set & wanted) == wanted && (set & keptSet) == 0;
            if (asked && sizeOf(set) == size && leavesNoCycle(set)) {
                found++;
            }
        }
        return found;
    }

    private boolean leavesNoCycle(int removed) {
        int left = allVertices() & ~removed;
        return excessWithin(left) == 0;
    }

    // Grows a spanning forest edge by edge: an edge inside one tree closes a cycle and is one
    // too many, any other joins two trees. Edges from a vertex to itself are always too many.
    private int excessWithin(int members) {
        for (int v = 0; v < MOST_VERTICES; v++) {
            treeOf[v] = v;
        }
        int tooMany = 0;
        for (int u = 0; u < n; u++) {
            for (int v = u; v < n; v++) {
                int pair = (1 << u) | (1 << v);
                int many = edgesOfPair[u * MOST_VERTICES + v];
                if ((members & pair) == pair && many > 0) {
                    if (treeOf[u] == treeOf[v]) {
                        tooMany += many;
                    } else {
                        tooMany += many - 1;
                        joinTrees(treeOf[u], treeOf[v]);
                    }
                }
            }
        }
        return tooMany;
    }

    private void joinTrees(int grown, int swallowed) {
        for (int v = 0; v < MOST_VERTICES; v++) {
            if (treeOf[v] == swallowed) {
                treeOf[v] = grown;
            }
        }
    }
}
