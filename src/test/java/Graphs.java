/** Graphs that several tests start from. */
final class Graphs {
    /** The kinds that start() makes. */
    static final int NO_EDGE = 0;
    static final int ONE_EVERYWHERE = 1;
    static final int TWO_EVERYWHERE = 2;
    static final int MIXED = 3;
    static final int SPARSE = 4;
    static final int KINDS = 5;

    private Graphs() {
    }

    static FeedbackBreaker cycleOf(int n) {
        FeedbackBreaker x = new FeedbackBreaker(n);
        x.ring(0, 1, n);
        return x;
    }

    static FeedbackBreaker pathOf(int n) {
        FeedbackBreaker x = new FeedbackBreaker(n);
        x.ring(0, 1, n - 1);
        return x;
    }

    static FeedbackBreaker completeOf(int n) {
        FeedbackBreaker x = new FeedbackBreaker(n);
        for (int u = 0; u < n; u++) {
            for (int v = 0; v < u; v++) x.link(u, v, 1);
        }
        return x;
    }

    /** An edge from each vertex to itself, and no other. */
    static FeedbackBreaker loopsOf(int n) {
        FeedbackBreaker x = new FeedbackBreaker(n);
        for (int v = 0; v < n; v++) x.link(v, v, 1);
        return x;
    }

    /** Triangles 0 1 2 and 2 3 4, which share vertex 2. */
    static FeedbackBreaker bowTie() {
        FeedbackBreaker x = new FeedbackBreaker(5);
        x.link(0, 1, 1);
        x.link(1, 2, 1);
        x.link(2, 0, 1);
        x.link(2, 3, 1);
        x.link(3, 4, 1);
        x.link(4, 2, 1);
        return x;
    }

    static FeedbackBreaker keepAll(FeedbackBreaker x) {
        int n = x.vertices();
        for (int v = 0; v < n; v++) x.keep(v, 1);
        return x;
    }

    static FeedbackBreaker start(int kind, int n) {
        FeedbackBreaker x = new FeedbackBreaker(n);
        for (int v = 0; v < n; v++) {
            for (int u = 0; u <= v; u++) x.link(u, v, many(kind, u, v));
            x.keep(v, kept(kind, v));
        }
        return x;
    }

    static Model modelOf(int kind, int n) {
        Model model = new Model(n);
        for (int v = 0; v < n; v++) {
            for (int u = 0; u <= v; u++) model.link(u, v, many(kind, u, v));
            model.keep(v, kept(kind, v));
        }
        return model;
    }

    private static int many(int kind, int u, int v) {
        if (kind == MIXED) return (u * v + u + v) % 3;
        if (kind == SPARSE) return (u + v) % 4 == 1 ? 1 : 0;
        return kind;
    }

    // In the mixed kind no edge runs between kept vertices, so that some allowed set breaks it.
    private static int kept(int kind, int v) {
        if (kind == MIXED) return v % 3 == 0 ? 1 : 0;
        return kind == SPARSE && v == 1 ? 1 : 0;
    }
}
