import java.util.ArrayList;
import java.util.List;
import java.util.function.ToIntFunction;

/** A call with its text, and for a refused one the answer that is due. */
record Call(String text, int due, ToIntFunction<FeedbackBreaker> on) {
    private static final int LOW = Integer.MIN_VALUE;
    private static final int HIGH = Integer.MAX_VALUE;
    private static final int NOT_SAID = 0;

    static final int[] BAD_MANY = {-1, 3, 4, 256, 257, 65536, -2, LOW, LOW + 1, HIGH - 1, HIGH};
    static final int[] BAD_STEP = {0, 9, 10, -1, -8, 256, 257, 65537, LOW, LOW + 1, HIGH - 1, HIGH};
    static final int[] BAD_COUNT = {0, 13, 14, -1, -12, 256, 257, 65537, LOW, LOW + 1, HIGH - 1, HIGH};

    int ask(FeedbackBreaker x) {
        return on.applyAsInt(x);
    }

    /** The first ones outside, those inside for a greater n, and those that a shift, a cast or a sum wraps. */
    static int[] badVertices(int n) {
        int[] tried = {-1, n, n + 1, 8, 9, 10, -n, -8, -9, 31, 32, 33, 63, 64, 80, 81, -32, 256, 65536,
            LOW, LOW + 1, LOW + n, HIGH - n, HIGH - 1, HIGH};
        return java.util.Arrays.stream(tried).filter(v -> v < 0 || v >= n).distinct().toArray();
    }

    static int[] badSets(int n) {
        int past = 1 << n;
        return new int[] {-1, -2, -past, past, past + 1, 2 * past - 1, 2 * past, 1 << 16, 1 << 30,
            LOW, LOW + 1, LOW + past - 1, HIGH - 1, HIGH};
    }

    /** Each refused way to call each method, with one, two or three wrong arguments. */
    static List<Call> refused(int n) {
        List<Call> calls = new ArrayList<>();
        refusedLinks(calls, n);
        refusedRings(calls, n);
        for (int v : badVertices(n)) {
            calls.add(new Call("keep(" + v + ", 1)", -1, x -> x.keep(v, 1)));
            calls.add(new Call("keep(" + v + ", 0)", -1, x -> x.keep(v, 0)));
            calls.add(new Call("inBreakers(" + v + ")", -1, x -> x.inBreakers(v)));
            calls.add(new Call("leastWith(" + v + ")", -2, x -> x.leastWith(v)));
            calls.add(new Call("leastWithout(" + v + ")", -2, x -> x.leastWithout(v)));
        }
        for (int set : badSets(n)) calls.add(new Call("breaks(" + set + ")", -1, x -> x.breaks(set)));
        return calls;
    }

    private static void refusedLinks(List<Call> calls, int n) {
        int last = n - 1;
        for (int bad : badVertices(n)) {
            for (int many : new int[] {0, 1, 2, -1, 3, LOW, HIGH}) {
                calls.add(link(bad, 0, many, -1));
                calls.add(link(last, bad, many, -1));
                calls.add(link(bad, bad, many, -1));
            }
        }
        for (int many : BAD_MANY) {
            calls.add(link(0, last, many, -2));
            calls.add(link(last, 0, many, -2));
            calls.add(link(0, 0, many, -2));
            calls.add(link(last, last, many, -2));
        }
    }

    private static void refusedRings(List<Call> calls, int n) {
        int last = n - 1;
        for (int bad : badVertices(n)) {
            for (int step : new int[] {1, 8, 0, 9, LOW, HIGH}) {
                for (int count : new int[] {1, 12, 0, 13, LOW, HIGH}) calls.add(ring(bad, step, count, -1));
            }
        }
        for (int step : BAD_STEP) {
            for (int count : new int[] {1, 12, 0, 13, LOW, HIGH}) {
                calls.add(ring(0, step, count, -2));
                calls.add(ring(last, step, count, -2));
            }
        }
        for (int count : BAD_COUNT) {
            for (int step = 1; step <= 8; step++) {
                calls.add(ring(0, step, count, -3));
                calls.add(ring(last, step, count, -3));
            }
        }
    }

    private static Call link(int u, int v, int many, int due) {
        return new Call("link(" + u + ", " + v + ", " + many + ")", due, x -> x.link(u, v, many));
    }

    private static Call ring(int v, int step, int count, int due) {
        return new Call("ring(" + v + ", " + step + ", " + count + ")", due, x -> x.ring(v, step, count));
    }

    /** Each question with each good argument. */
    static List<Call> questions(int n) {
        List<Call> calls = new ArrayList<>();
        calls.add(new Call("vertices()", NOT_SAID, FeedbackBreaker::vertices));
        calls.add(new Call("edges()", NOT_SAID, FeedbackBreaker::edges));
        calls.add(new Call("least()", NOT_SAID, FeedbackBreaker::least));
        calls.add(new Call("first()", NOT_SAID, FeedbackBreaker::first));
        calls.add(new Call("breakers()", NOT_SAID, FeedbackBreaker::breakers));
        calls.add(new Call("girth()", NOT_SAID, FeedbackBreaker::girth));
        calls.add(new Call("excess()", NOT_SAID, FeedbackBreaker::excess));
        for (int v = 0; v < n; v++) {
            int asked = v;
            calls.add(new Call("inBreakers(" + v + ")", NOT_SAID, x -> x.inBreakers(asked)));
            calls.add(new Call("leastWith(" + v + ")", NOT_SAID, x -> x.leastWith(asked)));
            calls.add(new Call("leastWithout(" + v + ")", NOT_SAID, x -> x.leastWithout(asked)));
        }
        for (int set = 0; set < 1 << n; set++) {
            int asked = set;
            calls.add(new Call("breaks(" + set + ")", NOT_SAID, x -> x.breaks(asked)));
        }
        return calls;
    }
}
