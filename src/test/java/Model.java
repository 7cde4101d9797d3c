/**
 * The document's terms taken word for word, as slow as that may be: it lists the vertex sets of
 * all cycles, where the program grows forests. Only excess() counts by a formula, as trying every
 * way to take edges away is too slow beyond 4 vertices; up to there ModelTest does that.
 */
final class Model {
    final int n;
    private final int[][] many;
    private final boolean[] kept;

    Model(int vertices) {
        n = Math.max(2, Math.min(9, vertices));
        many = new int[n][n];
        kept = new boolean[n];
    }

    boolean good(int v) {
        return 0 <= v && v <= n - 1;
    }

    int link(int u, int v, int count) {
        if (!good(u) || !good(v)) return -1;
        if (count < 0 || count > 2) return -2;
        int before = many[u][v];
        many[u][v] = count;
        many[v][u] = count;
        return before;
    }

    int ring(int v, int step, int count) {
        if (!good(v)) return -1;
        if (step < 1 || step > 8) return -2;
        if (count < 1 || count > 12) return -3;
        for (int i = 0; i < count; i++) {
            int a = (v + i * step) % n;
            int b = (v + (i + 1) * step) % n;
            if (many[a][b] == 0) link(a, b, 1);
        }
        return edges();
    }

    int keep(int v, int flag) {
        if (!good(v)) return -1;
        int before = kept[v] ? 1 : 0;
        kept[v] = flag != 0;
        return before;
    }

    int edges() {
        int sum = 0;
        for (int u = 0; u < n; u++) {
            for (int v = 0; v <= u; v++) sum += many[u][v];
        }
        return sum;
    }

    /** For each set of vertices whether some cycle runs through just these. */
    boolean[] cycles() {
        boolean[] cycle = new boolean[1 << n];
        for (int u = 0; u < n; u++) {
            if (many[u][u] > 0) cycle[1 << u] = true;
            for (int v = 0; v < u; v++) {
                if (many[u][v] == 2) cycle[1 << u | 1 << v] = true;
            }
        }
        // path[s][v]: some path from the lowest member of s to v runs through all of s, each once.
        boolean[][] path = new boolean[1 << n][n];
        for (int s = 1; s < 1 << n; s++) {
            int start = Integer.numberOfTrailingZeros(s);
            if (s == 1 << start) path[s][start] = true;
            for (int v = 0; v < n; v++) {
                if (!path[s][v]) continue;
                if (Integer.bitCount(s) >= 3 && many[v][start] > 0) cycle[s] = true;
                for (int w = start + 1; w < n; w++) {
                    if ((s >> w & 1) == 0 && many[v][w] > 0) path[s | 1 << w][w] = true;
                }
            }
        }
        return cycle;
    }

    /** For each set of vertices whether it breaks the graph. */
    boolean[] breaking() {
        boolean[] cycle = cycles();
        boolean[] breaking = new boolean[1 << n];
        for (int set = 0; set < 1 << n; set++) {
            breaking[set] = true;
            for (int c = 0; c < 1 << n; c++) {
                if (cycle[c] && (c & set) == 0) breaking[set] = false;
            }
        }
        return breaking;
    }

    boolean allowed(int set) {
        for (int v = 0; v < n; v++) {
            if (kept[v] && (set >> v & 1) == 1) return false;
        }
        return true;
    }

    int girth() {
        boolean[] cycle = cycles();
        int shortest = 0;
        for (int length = n; length >= 1; length--) {
            for (int c = 0; c < 1 << n; c++) {
                if (cycle[c] && Integer.bitCount(c) == length) shortest = length;
            }
        }
        return shortest;
    }

    /** A graph without cycles has at most one edge fewer than vertices in each of its parts. */
    int excess() {
        boolean[][] joined = new boolean[n][n];
        for (int u = 0; u < n; u++) {
            for (int v = 0; v < n; v++) joined[u][v] = u == v || many[u][v] > 0;
        }
        for (int w = 0; w < n; w++) {
            for (int u = 0; u < n; u++) {
                for (int v = 0; v < n; v++) joined[u][v] |= joined[u][w] && joined[w][v];
            }
        }
        int parts = 0;
        for (int u = 0; u < n; u++) {
            boolean lowest = true;
            for (int v = 0; v < u; v++) lowest &= !joined[u][v];
            if (lowest) parts++;
        }
        return edges() - (n - parts);
    }

    /** The answers of all questions about breakers and cycles, compared with those of x. */
    void compare(Due due, String where, FeedbackBreaker x) {
        boolean[] breaking = breaking();
        int least = -1;
        int first = -1;
        int breakers = 0;
        int[] in = new int[n];
        int[] with = new int[n];
        int[] without = new int[n];
        java.util.Arrays.fill(with, -1);
        java.util.Arrays.fill(without, -1);
        for (int size = 0; size <= n; size++) {
            for (int set = 0; set < 1 << n; set++) {
                if (Integer.bitCount(set) != size || !breaking[set] || !allowed(set)) continue;
                if (least == -1) {
                    least = size;
                    first = set;
                }
                if (size == least) breakers++;
                for (int v = 0; v < n; v++) {
                    boolean member = (set >> v & 1) == 1;
                    if (member && size == least) in[v]++;
                    if (member && with[v] == -1) with[v] = size;
                    if (!member && without[v] == -1) without[v] = size;
                }
            }
        }
        due.is(where + " vertices()", x.vertices(), n);
        due.is(where + " edges()", x.edges(), edges());
        due.is(where + " least()", x.least(), least);
        due.is(where + " first()", x.first(), first);
        due.is(where + " breakers()", x.breakers(), breakers);
        due.is(where + " girth()", x.girth(), girth());
        due.is(where + " excess()", x.excess(), excess());
        for (int v = 0; v < n; v++) {
            due.is(where + " inBreakers(" + v + ")", x.inBreakers(v), in[v]);
            due.is(where + " leastWith(" + v + ")", x.leastWith(v), with[v]);
            due.is(where + " leastWithout(" + v + ")", x.leastWithout(v), without[v]);
        }
    }
}
