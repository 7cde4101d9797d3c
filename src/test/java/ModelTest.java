/** The program beside the model: on every graph of 2 or 3 vertices, and on long mixed runs. */
public final class ModelTest {
    // The document promises nothing after this many calls on one object.
    private static final int CALLS = 512;

    private static final Due due = new Due();
    private static long seed = 1;

    public static void main(String[] args) {
        for (int n = 2; n <= 3; n++) everyGraph(n);
        for (int n = 2; n <= 9; n++) {
            for (int run = 0; run < 40; run++) mixedRun(n, run);
            for (int run = 0; run < 20; run++) breaksOfEverySet(n, run);
        }
        due.exit();
    }

    private static void everyGraph(int n) {
        int pairs = n * (n + 1) / 2;
        for (int graph = 0; graph < Math.round(Math.pow(3, pairs)); graph++) {
            for (int kept = 0; kept < 1 << n; kept++) {
                FeedbackBreaker x = new FeedbackBreaker(n);
                Model model = new Model(n);
                int digits = graph;
                for (int u = 0; u < n; u++) {
                    for (int v = 0; v <= u; v++) {
                        x.link(u, v, digits % 3);
                        model.link(u, v, digits % 3);
                        digits /= 3;
                    }
                    x.keep(u, kept >> u & 1);
                    model.keep(u, kept >> u & 1);
                }
                String where = "n " + n + " graph " + graph + " kept " + kept + ":";
                model.compare(due, where, x);
                if (kept == 0) due.is(where + " excess()", x.excess(), model.excessByTrying());
            }
        }
    }

    /** Changes, good and refused ones, each followed by all questions, for as long as is promised. */
    private static void mixedRun(int n, int run) {
        FeedbackBreaker x = new FeedbackBreaker(n);
        Model model = new Model(n);
        int callsPerTurn = 1 + 7 + 3 * n;
        for (int turn = 0; (turn + 1) * callsPerTurn <= CALLS; turn++) {
            String where = "n " + n + " run " + run + " turn " + turn + ":";
            change(where, x, model);
            model.compare(due, where, x);
        }
    }

    private static void breaksOfEverySet(int n, int run) {
        FeedbackBreaker x = new FeedbackBreaker(n);
        Model model = new Model(n);
        String where = "n " + n + " sets " + run + ":";
        int changes = 2 + run;
        for (int i = 0; i < changes; i++) change(where, x, model);
        boolean[] breaking = model.breaking();
        // With 9 vertices the changes and all 512 sets are too many calls, so the run says where to start.
        for (int i = 0; i < Math.min(1 << n, CALLS - changes); i++) {
            int set = (i + run * 37) % (1 << n);
            due.is(where + " breaks(" + set + ")", x.breaks(set), breaking[set] ? 1 : 0);
        }
    }

    private static void change(String where, FeedbackBreaker x, Model model) {
        int n = model.n;
        int kind = below(10);
        if (kind < 5) {
            int u = nearly(0, n - 1);
            int v = nearly(0, n - 1);
            int many = nearly(0, 2);
            // Edges from a vertex to itself settle too much to be as frequent as the others.
            if (u == v && below(3) > 0) v = (u + 1) % n;
            String call = where + " link(" + u + ", " + v + ", " + many + ")";
            due.is(call, x.link(u, v, many), model.link(u, v, many));
        } else if (kind < 8) {
            int v = nearly(0, n - 1);
            int step = nearly(1, 8);
            int count = nearly(1, 12);
            String call = where + " ring(" + v + ", " + step + ", " + count + ")";
            due.is(call, x.ring(v, step, count), model.ring(v, step, count));
        } else {
            int v = nearly(0, n - 1);
            int flag = below(2) == 0 ? 0 : below(5) - 2;
            due.is(where + " keep(" + v + ", " + flag + ")", x.keep(v, flag), model.keep(v, flag));
        }
    }

    /** Mostly from low to high, now and then one beside them. */
    private static int nearly(int low, int high) {
        if (below(24) > 0) return low + below(high - low + 1);
        return below(2) == 0 ? low - 1 : high + 1;
    }

    /** Always the same row of numbers, so that a failure comes again. */
    private static int below(int bound) {
        seed = seed * 6364136223846793005L + 1442695040888963407L;
        return (int) ((seed >>> 33) % bound);
    }
}
