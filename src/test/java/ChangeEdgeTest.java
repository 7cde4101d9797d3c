/** Promises 1 to 5: each sentence that names a boundary case has a test of its own. */
public final class ChangeEdgeTest {
    private static final int LOW = Integer.MIN_VALUE;
    private static final int HIGH = Integer.MAX_VALUE;

    private static final Due due = new Due();

    public static void main(String[] args) {
        promise1Below2Becomes2();
        promise1From2To9();
        promise1Above9Becomes9();
        for (int n = 2; n <= 9; n++) {
            promise2StaysN(n);
            promise3VertexNotGood(n);
            promise3ManyOutside(n);
            promise3VertexComesBeforeMany(n);
            promise3FromUToItself(n);
            promise3AnswersWhatWasBefore(n);
            promise3SetsNoOtherPair(n);
            promise4VertexNotGood(n);
            promise4StepOutside(n);
            promise4CountOutside(n);
            promise4OrderOfTests(n);
            promise4EveryRing(n);
            promise4StepIsAMultipleOfN(n);
            promise4StepAboveN(n);
            promise4HalfWayAndBack(n);
            promise4WrapsAround(n);
            promise4OnlyWhereThereIsNone(n);
            promise4AnswersAllEdges(n);
            promise5FlagIs0OrNot(n);
            promise5VertexNotGood(n);
            promise5KeepsNoOtherVertex(n);
        }
        promise4StepAndCountAtTheirGreatest();
        due.exit();
    }

    private static void hasVertices(String where, FeedbackBreaker x, int n) {
        due.is(where + "vertices", x.vertices(), n);
        due.is(where + "last vertex", x.link(n - 1, n - 1, 0), 0);
        due.is(where + "past the last vertex", x.link(n, n, 0), -1);
        due.is(where + "last set", x.breaks((1 << n) - 1), 1);
        due.is(where + "past the last set", x.breaks(1 << n), -1);
        due.is(where + "once round", x.ring(0, 1, 12), n == 2 ? 1 : n);
    }

    /** "below 2 becomes 2" */
    private static void promise1Below2Becomes2() {
        for (int asked : new int[] {1, 0, -1, -2, -9, -10, -256, LOW + 1, LOW}) {
            hasVertices("1: new " + asked + " ", new FeedbackBreaker(asked), 2);
        }
    }

    /** "vertices is n" */
    private static void promise1From2To9() {
        for (int asked = 2; asked <= 9; asked++) {
            hasVertices("1: new " + asked + " ", new FeedbackBreaker(asked), asked);
        }
    }

    /** "above 9 becomes 9" */
    private static void promise1Above9Becomes9() {
        for (int asked : new int[] {10, 11, 18, 81, 256, 259, 65541, HIGH - 1, HIGH}) {
            hasVertices("1: new " + asked + " ", new FeedbackBreaker(asked), 9);
        }
    }

    /** "n." */
    private static void promise2StaysN(int n) {
        FeedbackBreaker x = new FeedbackBreaker(n);
        x.link(0, n - 1, 2);
        due.is("2: after link", x.vertices(), n);
        x.ring(n - 1, 8, 12);
        due.is("2: after ring", x.vertices(), n);
        x.keep(n - 1, 1);
        due.is("2: after keep", x.vertices(), n);
        for (int kind = 0; kind < Graphs.KINDS; kind++) {
            due.is("2: kind " + kind, Graphs.start(kind, n).vertices(), n);
        }
    }

    /** "-1 if u or v is not good" */
    private static void promise3VertexNotGood(int n) {
        FeedbackBreaker x = new FeedbackBreaker(n);
        for (int bad : Call.badVertices(n)) {
            due.is("3: u is " + bad + " of " + n, x.link(bad, n - 1, 1), -1);
            due.is("3: v is " + bad + " of " + n, x.link(n - 1, bad, 1), -1);
            due.is("3: both are " + bad + " of " + n, x.link(bad, bad, 1), -1);
        }
        due.is("3: no edge was made of " + n, x.edges(), 0);
        for (int v = 0; v < n; v++) {
            due.is("3: u is good " + v, x.link(v, n - 1, 0), 0);
            due.is("3: v is good " + v, x.link(n - 1, v, 0), 0);
        }
    }

    /** "-2 if many is not in 0 .. 2" */
    private static void promise3ManyOutside(int n) {
        for (int before = 0; before <= 2; before++) {
            FeedbackBreaker x = new FeedbackBreaker(n);
            x.link(0, n - 1, before);
            x.link(n - 1, n - 1, before);
            for (int many : Call.BAD_MANY) {
                due.is("3: many is " + many, x.link(0, n - 1, many), -2);
                due.is("3: many to itself is " + many, x.link(n - 1, n - 1, many), -2);
                due.is("3: after many " + many, x.edges(), 2 * before);
            }
            for (int many = 0; many <= 2; many++) {
                int last = many == 0 ? before : many - 1;
                due.is("3: many is in " + many, x.link(0, n - 1, many), last);
            }
        }
    }

    /** "-1 if u or v is not good; -2 if many is not in 0 .. 2", both wrong at once */
    private static void promise3VertexComesBeforeMany(int n) {
        FeedbackBreaker x = Graphs.start(Graphs.MIXED, n);
        for (int many : Call.BAD_MANY) {
            due.is("3: u below, many " + many, x.link(-1, 0, many), -1);
            due.is("3: u above, many " + many, x.link(n, 0, many), -1);
            due.is("3: v below, many " + many, x.link(0, -1, many), -1);
            due.is("3: v above, many " + many, x.link(0, n, many), -1);
        }
    }

    /** "(or from u to itself)" */
    private static void promise3FromUToItself(int n) {
        for (int v = 0; v < n; v++) {
            FeedbackBreaker x = new FeedbackBreaker(n);
            due.is("3: to itself, at first", x.link(v, v, 1), 0);
            due.is("3: to itself, a cycle", x.girth(), 1);
            due.is("3: to itself, two", x.link(v, v, 2), 1);
            due.is("3: to itself, two in all", x.edges(), 2);
            due.is("3: to itself, none", x.link(v, v, 0), 2);
            due.is("3: to itself, no cycle", x.girth(), 0);
        }
    }

    /** "otherwise answers how many there were before" */
    private static void promise3AnswersWhatWasBefore(int n) {
        for (int before = 0; before <= 2; before++) {
            for (int after = 0; after <= 2; after++) {
                for (int u = 0; u < n; u++) {
                    for (int v = 0; v < n; v++) {
                        FeedbackBreaker x = new FeedbackBreaker(n);
                        String where = "3: " + u + " to " + v + " of " + n + ", " + before + " then " + after;
                        due.is(where + ": new", x.link(u, v, before), 0);
                        due.is(where + ": before", x.link(v, u, after), before);
                        due.is(where + ": after", x.link(u, v, 0), after);
                    }
                }
            }
        }
    }

    /** "Sets how many edges there are between u and v" */
    private static void promise3SetsNoOtherPair(int n) {
        for (int kind = 0; kind < Graphs.KINDS; kind++) {
            for (int u = 0; u < n; u++) {
                for (int v = 0; v < n; v++) {
                    for (int many = 0; many <= 2; many++) {
                        FeedbackBreaker x = Graphs.start(kind, n);
                        Model model = Graphs.modelOf(kind, n);
                        x.link(u, v, many);
                        model.link(u, v, many);
                        String where = "3: kind " + kind + " after link(" + u + ", " + v + ", " + many + ")";
                        due.same(where, State.takenFrom(x), State.takenFrom(model));
                    }
                }
            }
        }
    }

    /** "-1 if v is not good" */
    private static void promise4VertexNotGood(int n) {
        FeedbackBreaker x = new FeedbackBreaker(n);
        for (int bad : Call.badVertices(n)) due.is("4: v is " + bad + " of " + n, x.ring(bad, 1, 1), -1);
        due.is("4: no edge was made of " + n, x.edges(), 0);
        due.is("4: first vertex of " + n, x.ring(0, 1, 1), 1);
        due.is("4: last vertex of " + n, x.ring(n - 1, 1, 1), n == 2 ? 1 : 2);
    }

    /** "-2 if step is not in 1 .. 8" */
    private static void promise4StepOutside(int n) {
        FeedbackBreaker x = new FeedbackBreaker(n);
        for (int step : Call.BAD_STEP) due.is("4: step is " + step, x.ring(0, step, 1), -2);
        due.is("4: no edge was made by a bad step", x.edges(), 0);
        for (int step = 1; step <= 8; step++) {
            due.is("4: step is in, " + step + " of " + n, new FeedbackBreaker(n).ring(n - 1, step, 1), 1);
        }
    }

    /** "-3 if count is not in 1 .. 12" */
    private static void promise4CountOutside(int n) {
        FeedbackBreaker x = new FeedbackBreaker(n);
        for (int count : Call.BAD_COUNT) due.is("4: count is " + count, x.ring(0, 1, count), -3);
        due.is("4: no edge was made by a bad count", x.edges(), 0);
        int round = n == 2 ? 1 : n;
        for (int count = 1; count <= 12; count++) {
            int made = new FeedbackBreaker(n).ring(n - 1, 1, count);
            due.is("4: count is in, " + count + " of " + n, made, Math.min(count, round));
        }
    }

    /** "-1 if v is not good; -2 if step is not in 1 .. 8; -3 if count is not in 1 .. 12", more wrong at once */
    private static void promise4OrderOfTests(int n) {
        FeedbackBreaker x = Graphs.start(Graphs.SPARSE, n);
        for (int v : new int[] {-1, n, LOW, HIGH}) {
            due.is("4: v and step", x.ring(v, 0, 1), -1);
            due.is("4: v and step above", x.ring(v, 9, 1), -1);
            due.is("4: v and count", x.ring(v, 1, 0), -1);
            due.is("4: v and count above", x.ring(v, 1, 13), -1);
            due.is("4: all three", x.ring(v, 0, 0), -1);
            due.is("4: all three above", x.ring(v, 9, 13), -1);
        }
        for (int step : new int[] {0, 9, LOW, HIGH}) {
            due.is("4: step and count", x.ring(0, step, 0), -2);
            due.is("4: step and count above", x.ring(n - 1, step, 13), -2);
        }
    }

    /** "One edge is put between v and v + step, v + step and v + 2 * step, .., count times" */
    private static void promise4EveryRing(int n) {
        for (int kind = 0; kind < Graphs.KINDS; kind++) {
            for (int v = 0; v < n; v++) {
                for (int step = 1; step <= 8; step++) {
                    for (int count = 1; count <= 12; count++) promise4OneRing(kind, n, v, step, count);
                }
            }
        }
    }

    private static void promise4OneRing(int kind, int n, int v, int step, int count) {
        FeedbackBreaker x = Graphs.start(kind, n);
        Model model = Graphs.modelOf(kind, n);
        String call = "4: " + n + " kind " + kind + " ring(" + v + ", " + step + ", " + count + ")";
        due.is(call, x.ring(v, step, count), model.ring(v, step, count));
        due.same(call, State.takenFrom(x), State.takenFrom(model));
    }

    /** "all numbers modulo n", where v and v + step are one vertex: "from a vertex to itself" */
    private static void promise4StepIsAMultipleOfN(int n) {
        for (int step = n; step <= 8; step += n) {
            for (int v = 0; v < n; v++) {
                FeedbackBreaker x = new FeedbackBreaker(n);
                due.is("4: step " + step + " of " + n + ", once", x.ring(v, step, 1), 1);
                due.is("4: step " + step + " of " + n + ", 12 times", x.ring(v, step, 12), 1);
                due.is("4: step " + step + " of " + n + ", a cycle", x.girth(), 1);
                due.is("4: step " + step + " of " + n + ", to itself", x.link(v, v, 2), 1);
                due.is("4: step " + step + " of " + n + ", two stay two", x.ring(v, step, 12), 2);
                due.is("4: step " + step + " of " + n + ", still two", x.link(v, v, 0), 2);
                due.is("4: step " + step + " of " + n + ", nothing else", x.edges(), 0);
            }
        }
    }

    /** "(remainders in 0 .. n-1)", for a step above n */
    private static void promise4StepAboveN(int n) {
        for (int step = n + 1; step <= 8; step++) {
            if (step % n == 0) continue;
            for (int count = 1; count <= 12; count++) {
                FeedbackBreaker x = new FeedbackBreaker(n);
                FeedbackBreaker same = new FeedbackBreaker(n);
                String where = "4: step " + step + " of " + n + ", " + count + " times";
                due.is(where, x.ring(n - 1, step, count), same.ring(n - 1, step % n, count));
                due.same(where, State.takenFrom(x), State.takenFrom(same));
            }
        }
    }

    /** "wherever there is none yet", where the second edge would lie on the first */
    private static void promise4HalfWayAndBack(int n) {
        if (n % 2 == 1) return;
        FeedbackBreaker x = new FeedbackBreaker(n);
        due.is("4: half way of " + n, x.ring(0, n / 2, 1), 1);
        due.is("4: and back", x.ring(0, n / 2, 2), 1);
        due.is("4: and on", x.ring(0, n / 2, 12), 1);
        due.is("4: one edge", x.link(n / 2, 0, 0), 1);
    }

    /** "all numbers modulo n", past the last vertex */
    private static void promise4WrapsAround(int n) {
        FeedbackBreaker x = new FeedbackBreaker(n);
        due.is("4: from the last of " + n, x.ring(n - 1, 1, 1), 1);
        due.is("4: to the first of " + n, x.link(n - 1, 0, 0), 1);
        due.is("4: once round " + n, x.ring(0, 1, n), n == 2 ? 1 : n);
        due.is("4: the last edge of " + n, x.link(n - 1, 0, 1), 1);
        due.is("4: further round " + n, x.ring(0, 1, 12), n == 2 ? 1 : n);
        due.is("4: the other way round " + n, x.ring(0, n - 1, 8), n == 2 ? 1 : n);
    }

    /** "wherever there is none yet between these two" */
    private static void promise4OnlyWhereThereIsNone(int n) {
        FeedbackBreaker x = new FeedbackBreaker(n);
        x.link(0, 1, 2);
        x.ring(0, 1, 12);
        due.is("4: two stay two", x.link(0, 1, 1), 2);
        x.ring(0, 1, 12);
        due.is("4: one stays one", x.link(0, 1, 0), 1);
        x.ring(0, 1, 12);
        due.is("4: none becomes one", x.link(0, 1, 0), 1);
    }

    /** "otherwise answers how many edges there are in all" */
    private static void promise4AnswersAllEdges(int n) {
        int pairs = n * (n + 1) / 2;
        due.is("4: none was there", new FeedbackBreaker(n).ring(0, 1, 1), 1);
        due.is("4: one everywhere", Graphs.start(Graphs.ONE_EVERYWHERE, n).ring(0, 1, 1), pairs);
        due.is("4: two everywhere", Graphs.start(Graphs.TWO_EVERYWHERE, n).ring(n - 1, 8, 12), 2 * pairs);
        FeedbackBreaker x = Graphs.start(Graphs.TWO_EVERYWHERE, n);
        x.link(0, n - 1, 0);
        due.is("4: one was missing", x.ring(n - 1, 1, 1), 2 * pairs - 1);
    }

    /** "-2 if step is not in 1 .. 8; -3 if count is not in 1 .. 12", both at the last one inside */
    private static void promise4StepAndCountAtTheirGreatest() {
        FeedbackBreaker x = new FeedbackBreaker(9);
        due.is("4: eight times", x.ring(8, 8, 8), 8);
        due.is("4: not yet the ninth", x.link(0, 8, 0), 0);
        due.is("4: twelve times", x.ring(8, 8, 12), 9);
        due.is("4: the ninth", x.link(0, 8, 0), 1);
    }

    /** "The vertex is kept (flag not 0) or not (flag 0)." and "otherwise 1 if it was kept before, else 0" */
    private static void promise5FlagIs0OrNot(int n) {
        int[] flags = {1, -1, 2, -2, 256, 65536, 1 << 30, LOW, LOW + 1, HIGH - 1, HIGH};
        for (int v = 0; v < n; v++) {
            for (int flag : flags) {
                FeedbackBreaker x = new FeedbackBreaker(n);
                String where = "5: " + v + " of " + n + " flag " + flag;
                x.link(v, v, 1);
                due.is(where + ", kept", x.keep(v, flag), 0);
                due.is(where + ", none may go", x.least(), -1);
                due.is(where + ", kept again", x.keep(v, flag), 1);
                due.is(where + ", still kept", x.least(), -1);
                due.is(where + ", free", x.keep(v, 0), 1);
                due.is(where + ", it may go", x.least(), 1);
                due.is(where + ", free again", x.keep(v, 0), 0);
                due.is(where + ", still free", x.least(), 1);
            }
        }
    }

    /** "-1 if v is not good" */
    private static void promise5VertexNotGood(int n) {
        for (int kept = 0; kept <= 1; kept++) {
            FeedbackBreaker x = new FeedbackBreaker(n);
            for (int v = 0; v < n; v++) x.keep(v, kept);
            for (int bad : Call.badVertices(n)) {
                for (int flag : new int[] {0, 1, -1, LOW, HIGH}) {
                    due.is("5: v is " + bad + " of " + n + ", flag " + flag, x.keep(bad, flag), -1);
                }
            }
            for (int v = 0; v < n; v++) due.is("5: after refused ones " + v, x.keep(v, 0), kept);
        }
    }

    /** "The vertex is kept": that one alone */
    private static void promise5KeepsNoOtherVertex(int n) {
        for (int kind = 0; kind < Graphs.KINDS; kind++) {
            for (int v = 0; v < n; v++) {
                for (int flag = 0; flag <= 1; flag++) {
                    FeedbackBreaker x = Graphs.start(kind, n);
                    Model model = Graphs.modelOf(kind, n);
                    x.keep(v, flag);
                    model.keep(v, flag);
                    String where = "5: kind " + kind + " after keep(" + v + ", " + flag + ")";
                    due.same(where, State.takenFrom(x), State.takenFrom(model));
                }
            }
        }
    }
}
