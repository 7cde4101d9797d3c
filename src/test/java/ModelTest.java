/** The program beside the model: on every graph of 2, 3 or 4 vertices, and on long mixed runs. */
public final class ModelTest {
    // The document promises nothing after this many calls on one object.
    private static final int CALLS = 512;

    private static final Due due = new Due();
    private static long seed = 1;

    public static void main(String[] args) {
        for (int n = 2; n <= 4; n++) everyGraph(n);
        for (int n = 2; n <= 9; n++) {
            for (int run = 0; run < 40; run++) mixedRun(n, run);
            for (int run = 0; run < 20; run++) breaksOfEverySet(n, run);
        }
        due.exit();
    }

    /** A graph's number has a digit of 0, 1 or 2 for each pair. */
    private static void everyGraph(int n) {
        int graphs = 1;
        for (int pair = 0; pair < n * (n + 1) / 2; pair++) graphs *= 3;
        int[] excess = new int[graphs];
        for (int graph = 0; graph < graphs; graph++) {
            excess[graph] = excessByTakingAway(n, graph, excess);
            // With 4 vertices every kept set of every graph takes too long, so the graph says which.
            int from = n < 4 ? 0 : graph % (1 << n);
            int to = n < 4 ? 1 << n : from + 1;
            for (int kept = from; kept < to; kept++) {
                FeedbackBreaker x = new FeedbackBreaker(n);
                for (int u = 0; u < n; u++) {
                    for (int v = 0; v <= u; v++) x.link(u, v, digit(graph, u, v));
                    x.keep(u, kept >> u & 1);
                }
                Model model = modelOf(n, graph);
                for (int v = 0; v < n; v++) model.keep(v, kept >> v & 1);
                String where = "n " + n + " graph " + graph + " kept " + kept + ":";
                model.compare(due, where, x);
                due.is(where + " excess()", x.excess(), excess[graph]);
            }
        }
    }

    /** "How many edges must be taken away at least": none, or one and then those of the best rest. */
    private static int excessByTakingAway(int n, int graph, int[] excessOfSmaller) {
        if (modelOf(n, graph).girth() == 0) return 0;
        int best = Integer.MAX_VALUE;
        for (int u = 0; u < n; u++) {
            for (int v = 0; v <= u; v++) {
                if (digit(graph, u, v) > 0) best = Math.min(best, excessOfSmaller[graph - place(u, v)]);
            }
        }
        return best + 1;
    }

    private static Model modelOf(int n, int graph) {
        Model model = new Model(n);
        for (int u = 0; u < n; u++) {
            for (int v = 0; v <= u; v++) model.link(u, v, digit(graph, u, v));
        }
        return model;
    }

    private static int digit(int graph, int u, int v) {
        return graph / place(u, v) % 3;
    }

    /** What one edge between u and v, or from u to itself, adds to the number of a graph; v <= u. */
    private static int place(int u, int v) {
        int place = 1;
        for (int pair = 0; pair < u * (u + 1) / 2 + v; pair++) place *= 3;
        return place;
    }

    /** Changes, good and refused ones, each followed by all questions, for as long as is promised. */
    private static void mixedRun(int n, int run) {
        FeedbackBreaker x = new FeedbackBreaker(n);
        Model model = new Model(n);
        int callsPerTurn = 1 + 7 + 3 * n;
        for (int turn = 0; (turn + 1) * callsPerTurn <= CALLS; turn++) {
            String where = "n " + n + " run " + run + " turn " + turn + ":";
            change(where, x, model);
            model.compare(due, where, x);
        }
    }

    private static void breaksOfEverySet(int n, int run) {
        FeedbackBreaker x = new FeedbackBreaker(n);
        Model model = new Model(n);
        String where = "n " + n + " sets " + run + ":";
        int changes = 2 + run;
        for (int i = 0; i < changes; i++) change(where, x, model);
        boolean[] breaking = model.breaking();
        // With 9 vertices the changes and all 512 sets are too many calls, so the run says where to start.
        for (int i = 0; i < Math.min(1 << n, CALLS - changes); i++) {
            int set = (i + run * 37) % (1 << n);
            due.is(where + " breaks(" + set + ")", x.breaks(set), breaking[set] ? 1 : 0);
        }
    }

    private static void change(String where, FeedbackBreaker x, Model model) {
        int n = model.n;
        int kind = below(10);
        if (kind < 5) {
            int u = nearly(0, n - 1);
            int v = nearly(0, n - 1);
            int many = nearly(0, 2);
            // Edges from a vertex to itself settle too much to be as frequent as the others.
            if (u == v && below(3) > 0) v = (u + 1) % n;
            String call = where + " link(" + u + ", " + v + ", " + many + ")";
            due.is(call, x.link(u, v, many), model.link(u, v, many));
        } else if (kind < 8) {
            int v = nearly(0, n - 1);
            int step = nearly(1, 8);
            int count = nearly(1, 12);
            String call = where + " ring(" + v + ", " + step + ", " + count + ")";
            due.is(call, x.ring(v, step, count), model.ring(v, step, count));
        } else {
            int v = nearly(0, n - 1);
            int flag = below(2) == 0 ? 0 : below(5) - 2;
            due.is(where + " keep(" + v + ", " + flag + ")", x.keep(v, flag), model.keep(v, flag));
        }
    }

    /** Mostly from low to high, now and then one beside them. */
    private static int nearly(int low, int high) {
        if (below(24) > 0) return low + below(high - low + 1);
        return below(2) == 0 ? low - 1 : high + 1;
    }

    /** Always the same row of numbers, so that a failure comes again. */
    private static int below(int bound) {
        seed = seed * 6364136223846793005L + 1442695040888963407L;
        return (int) ((seed >>> 33) % bound);
    }
}
