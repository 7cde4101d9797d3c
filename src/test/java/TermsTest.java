import java.util.List;

/** The sentences under 'What it is' and 'Terms' that bind every method, each with a test of its own. */
public final class TermsTest {
    // The document promises nothing after this many calls on one object.
    private static final int CALLS = 512;

    private static final Due due = new Due();

    public static void main(String[] args) {
        for (int n = 2; n <= 9; n++) {
            edgesAreNoneAtFirst(n);
            edgesAreZeroOneOrTwo(n);
            edgesHaveNoDirection(n);
            cycleIsAnEdgeToItself(n);
            cycleIsTwoEdgesBetweenTwo(n);
            cycleIsThreeOrMoreDifferentVertices(n);
            setIsTheSumOfPowers(n);
            emptySetBreaksWhatHasNoCycle(n);
            fullSetBreaksAnything(n);
            keptIsNoneAtFirst(n);
            emptySetIsAllowedWithAllKept(n);
            setWithAKeptVertexIsNotAllowed(n);
            vertexIsGoodUpToTheLast(n);
            refusedCallsAnswerAsDue(n);
            refusedCallsChangeNothing(n);
            refusedCallsSwayNoQuestion(n);
            questionsChangeNothing(n);
        }
        breakerHasFewestMembersAmongAllowedSets();
        firstBreakerHasTheLeastNumber();
        for (int n = 2; n <= 5; n++) questionsDoNotSwayEachOther(n);
        objectsAreApart();
        lastCallOfEachMethod();
        sameCallUpToTheLast();
        due.exit();
    }

    /** "there are 0, 1 or 2 EDGES (no direction), 0 at first" */
    private static void edgesAreNoneAtFirst(int n) {
        FeedbackBreaker x = new FeedbackBreaker(n);
        due.is(n + " at first: edges", x.edges(), 0);
        for (int u = 0; u < n; u++) {
            for (int v = 0; v < n; v++) due.is(n + " at first: " + u + " to " + v, x.link(u, v, 0), 0);
        }
    }

    /** "Between any two vertices, and from a vertex to itself, there are 0, 1 or 2 EDGES" */
    private static void edgesAreZeroOneOrTwo(int n) {
        for (int u = 0; u < n; u++) {
            for (int v = u; v < n; v++) {
                FeedbackBreaker x = new FeedbackBreaker(n);
                String where = n + " edges of " + u + " and " + v + ": ";
                due.is(where + "none to one", x.link(u, v, 1), 0);
                due.is(where + "one in all", x.edges(), 1);
                due.is(where + "one to two", x.link(u, v, 2), 1);
                due.is(where + "two in all", x.edges(), 2);
                due.is(where + "no third", x.link(u, v, 3), -2);
                due.is(where + "still two in all", x.edges(), 2);
                due.is(where + "two to none", x.link(u, v, 0), 2);
                due.is(where + "none in all", x.edges(), 0);
            }
        }
    }

    /** "(no direction)" */
    private static void edgesHaveNoDirection(int n) {
        FeedbackBreaker x = new FeedbackBreaker(n);
        for (int u = 0; u < n; u++) {
            for (int v = 0; v < u; v++) {
                String where = n + " direction: " + u + " to " + v;
                due.is(where, x.link(u, v, 2), 0);
                due.is(where + " and back", x.link(v, u, 1), 2);
                due.is(where + " and there again", x.link(u, v, 1), 1);
            }
        }
        due.is(n + " direction: each counts once", x.edges(), n * (n - 1) / 2);
    }

    /** "A CYCLE is an edge from a vertex to itself" */
    private static void cycleIsAnEdgeToItself(int n) {
        for (int v = 0; v < n; v++) {
            FeedbackBreaker x = new FeedbackBreaker(n);
            String where = n + " to itself " + v + ": ";
            x.link(v, v, 1);
            due.is(where + "one is a cycle", x.breaks(0), 0);
            due.is(where + "broken by itself", x.breaks(1 << v), 1);
            due.is(where + "by nothing else", x.breaks((1 << n) - 1 - (1 << v)), 0);
            x.link(v, v, 2);
            due.is(where + "two are cycles", x.breaks(0), 0);
            due.is(where + "two broken by itself", x.breaks(1 << v), 1);
            x.link(v, v, 0);
            due.is(where + "none is none", x.breaks(0), 1);
        }
    }

    /** "or two edges between the same two vertices" */
    private static void cycleIsTwoEdgesBetweenTwo(int n) {
        for (int u = 0; u < n; u++) {
            for (int v = 0; v < u; v++) {
                FeedbackBreaker x = new FeedbackBreaker(n);
                String where = n + " two edges of " + u + " and " + v + ": ";
                x.link(u, v, 1);
                due.is(where + "one is no cycle", x.breaks(0), 1);
                x.link(u, v, 2);
                due.is(where + "two are", x.breaks(0), 0);
                due.is(where + "broken by the one", x.breaks(1 << u), 1);
                due.is(where + "broken by the other", x.breaks(1 << v), 1);
                due.is(where + "by nothing else", x.breaks((1 << n) - 1 - (1 << u) - (1 << v)), 0);
            }
        }
    }

    /** "or three or more different vertices v1, .., vk with an edge between any two neighbouring ones
     * and between the last and the first" */
    private static void cycleIsThreeOrMoreDifferentVertices(int n) {
        for (int k = 2; k <= n; k++) {
            FeedbackBreaker x = new FeedbackBreaker(n);
            String where = n + " round of " + k + ": ";
            x.ring(n - k, 1, k - 1);
            due.is(where + "open", x.breaks(0), 1);
            x.link(n - 1, n - k, 1);
            due.is(where + "closed", x.breaks(0), k == 2 ? 1 : 0);
            for (int v = 0; v < n; v++) {
                boolean broken = k == 2 || v >= n - k;
                due.is(where + "without " + v, x.breaks(1 << v), broken ? 1 : 0);
            }
        }
        FeedbackBreaker star = new FeedbackBreaker(n);
        for (int v = 1; v < n; v++) star.link(0, v, 1);
        due.is(n + " star: there and back is no cycle", star.breaks(0), 1);
    }

    /** "A set of vertices is written as the sum of 2^v over its members" */
    private static void setIsTheSumOfPowers(int n) {
        for (int wanted = 0; wanted < 1 << n; wanted++) {
            FeedbackBreaker x = new FeedbackBreaker(n);
            for (int v = 0; v < n; v++) x.link(v, v, wanted >> v & 1);
            due.is(n + " set " + wanted + ": written", x.first(), wanted);
            due.is(n + " set " + wanted + ": read", x.breaks(wanted), 1);
        }
    }

    /** "it BREAKS the graph if every cycle has a member of it", with no cycle at all */
    private static void emptySetBreaksWhatHasNoCycle(int n) {
        FeedbackBreaker[] graphs = {new FeedbackBreaker(n), Graphs.pathOf(n)};
        for (FeedbackBreaker x : graphs) {
            due.is(n + " no cycle: empty set", x.breaks(0), 1);
            due.is(n + " no cycle: least", x.least(), 0);
            due.is(n + " no cycle: first", x.first(), 0);
            due.is(n + " no cycle: breakers", x.breakers(), 1);
        }
    }

    /** "it BREAKS the graph if every cycle has a member of it", with all the members that there are */
    private static void fullSetBreaksAnything(int n) {
        for (int kind = 0; kind < Graphs.KINDS; kind++) {
            due.is(n + " full set", Graphs.start(kind, n).breaks((1 << n) - 1), 1);
        }
    }

    /** "A vertex may be KEPT; none is at first." */
    private static void keptIsNoneAtFirst(int n) {
        FeedbackBreaker x = new FeedbackBreaker(n);
        for (int v = 0; v < n; v++) due.is(n + " kept at first: " + v, x.keep(v, 0), 0);
        due.is(n + " kept at first: all may go", Graphs.loopsOf(n).least(), n);
    }

    /** "A set is ALLOWED if it has no kept vertex.", with all vertices kept */
    private static void emptySetIsAllowedWithAllKept(int n) {
        FeedbackBreaker x = Graphs.keepAll(Graphs.pathOf(n));
        due.is(n + " all kept: least", x.least(), 0);
        due.is(n + " all kept: first", x.first(), 0);
        due.is(n + " all kept: breakers", x.breakers(), 1);
        x.link(0, n - 1, 2);
        due.is(n + " all kept and a cycle: least", x.least(), -1);
    }

    /** "A set is ALLOWED if it has no kept vertex.", with one kept vertex */
    private static void setWithAKeptVertexIsNotAllowed(int n) {
        for (int v = 0; v < n; v++) {
            FeedbackBreaker x = new FeedbackBreaker(n);
            int other = (v + 1) % n;
            x.link(v, other, 2);
            x.keep(v, 1);
            due.is(n + " kept " + v + ": the other is first", x.first(), 1 << other);
            due.is(n + " kept " + v + ": and the only one", x.breakers(), 1);
        }
    }

    /** "a vertex is good if it is 0 .. n-1" */
    private static void vertexIsGoodUpToTheLast(int n) {
        for (int v = 0; v < n; v++) {
            FeedbackBreaker x = new FeedbackBreaker(n);
            String where = n + " good " + v + ": ";
            due.is(where + "link from", x.link(v, 0, 0), 0);
            due.is(where + "link to", x.link(0, v, 0), 0);
            due.is(where + "keep", x.keep(v, 0), 0);
            due.is(where + "inBreakers", x.inBreakers(v), 0);
            due.is(where + "leastWith", x.leastWith(v), 1);
            due.is(where + "leastWithout", x.leastWithout(v), 0);
            due.is(where + "ring", x.ring(v, 1, 1), 1);
        }
    }

    /** "In every method the tests are made in the order named" */
    private static void refusedCallsAnswerAsDue(int n) {
        for (int kind = 0; kind < Graphs.KINDS; kind++) {
            for (Call call : Call.refused(n)) {
                FeedbackBreaker x = Graphs.start(kind, n);
                due.is(n + " kind " + kind + " refused: " + call.text(), call.ask(x), call.due());
            }
        }
    }

    /** "A refused call changes nothing." */
    private static void refusedCallsChangeNothing(int n) {
        leaveTheStateAsItWas(n, Call.refused(n));
    }

    /** "A refused call changes nothing.": nor what a question answers after it. */
    private static void refusedCallsSwayNoQuestion(int n) {
        List<Call> calls = Call.refused(n);
        // The calls that make the graph and the questions after them belong to the 512 too.
        int atOnce = CALLS - 100;
        for (int kind = 0; kind < Graphs.KINDS; kind++) {
            for (int from = 0; from < calls.size(); from += atOnce) {
                FeedbackBreaker x = Graphs.start(kind, n);
                int to = Math.min(from + atOnce, calls.size());
                for (Call call : calls.subList(from, to)) call.ask(x);
                Graphs.modelOf(kind, n).compare(due, n + " kind " + kind + " after refused calls:", x);
            }
        }
    }

    /** "No question changes anything." */
    private static void questionsChangeNothing(int n) {
        leaveTheStateAsItWas(n, Call.questions(n));
    }

    private static void leaveTheStateAsItWas(int n, List<Call> calls) {
        for (int kind = 0; kind < Graphs.KINDS; kind++) {
            String before = State.takenFrom(Graphs.modelOf(kind, n));
            for (Call call : calls) {
                FeedbackBreaker x = Graphs.start(kind, n);
                call.ask(x);
                String where = n + " kind " + kind + " after " + call.text();
                due.is(where + ": n", x.vertices(), n);
                due.same(where, State.takenFrom(x), before);
            }
        }
    }

    /** "No question changes anything.": neither what it nor what another one answers later. */
    private static void questionsDoNotSwayEachOther(int n) {
        List<Call> asked = Call.questions(n);
        asked.add(new Call("breaks past the sets", -1, x -> x.breaks(1 << n)));
        asked.add(new Call("inBreakers past the vertices", -1, x -> x.inBreakers(n)));
        for (int kind = 0; kind < Graphs.KINDS; kind++) {
            for (Call later : asked) {
                int alone = later.ask(Graphs.start(kind, n));
                for (Call sooner : asked) {
                    FeedbackBreaker x = Graphs.start(kind, n);
                    sooner.ask(x);
                    String where = n + " kind " + kind + " " + later.text() + " after " + sooner.text();
                    due.is(where, later.ask(x), alone);
                }
            }
        }
    }

    /** "A BREAKER is an allowed set that breaks the graph and has as few members as possible among those" */
    private static void breakerHasFewestMembersAmongAllowedSets() {
        FeedbackBreaker x = Graphs.bowTie();
        due.is("fewest: the middle alone", x.least(), 1);
        due.is("fewest: no greater one counts", x.breakers(), 1);
        x.keep(2, 1);
        due.is("fewest: among allowed ones", x.least(), 2);
        due.is("fewest: one of each side", x.breakers(), 4);
    }

    /** "THE FIRST BREAKER is the one of them with the least number" */
    private static void firstBreakerHasTheLeastNumber() {
        FeedbackBreaker x = Graphs.cycleOf(9);
        for (int v = 0; v < 9; v++) {
            due.is("least number: " + v, x.first(), 1 << v);
            x.keep(v, 1);
        }
        due.is("least number: none is left", x.first(), -1);
        due.is("least number: fewer members come first", Graphs.bowTie().first(), 4);
    }

    private static void objectsAreApart() {
        FeedbackBreaker x = Graphs.start(Graphs.MIXED, 9);
        FeedbackBreaker y = new FeedbackBreaker(4);
        due.is("apart: n", x.vertices(), 9);
        due.same("apart: the later one", State.takenFrom(y), State.takenFrom(new Model(4)));
        due.same("apart: the earlier one", State.takenFrom(x), State.takenFrom(Graphs.modelOf(Graphs.MIXED, 9)));
    }

    /** "An object is used for at most 512 calls after it has been made": each method is the 512th once. */
    private static void lastCallOfEachMethod() {
        Call[] last = {
            new Call("vertices()", 9, FeedbackBreaker::vertices),
            new Call("link(0, 8, 2)", 1, x -> x.link(0, 8, 2)),
            new Call("link(4, 4, 0)", 1, x -> x.link(4, 4, 0)),
            new Call("link(0, 9, 2)", -1, x -> x.link(0, 9, 2)),
            new Call("link(0, 8, 3)", -2, x -> x.link(0, 8, 3)),
            new Call("ring(7, 2, 3)", 13, x -> x.ring(7, 2, 3)),
            new Call("ring(9, 2, 3)", -1, x -> x.ring(9, 2, 3)),
            new Call("ring(7, 9, 3)", -2, x -> x.ring(7, 9, 3)),
            new Call("ring(7, 2, 13)", -3, x -> x.ring(7, 2, 13)),
            new Call("keep(0, 0)", 1, x -> x.keep(0, 0)),
            new Call("keep(1, 1)", 0, x -> x.keep(1, 1)),
            new Call("keep(9, 1)", -1, x -> x.keep(9, 1)),
            new Call("edges()", 10, FeedbackBreaker::edges),
            new Call("breaks(16)", 1, x -> x.breaks(16)),
            new Call("breaks(495)", 0, x -> x.breaks(495)),
            new Call("breaks(512)", -1, x -> x.breaks(512)),
            new Call("least()", 1, FeedbackBreaker::least),
            new Call("first()", 16, FeedbackBreaker::first),
            new Call("breakers()", 1, FeedbackBreaker::breakers),
            new Call("inBreakers(4)", 1, x -> x.inBreakers(4)),
            new Call("inBreakers(9)", -1, x -> x.inBreakers(9)),
            new Call("leastWith(3)", 2, x -> x.leastWith(3)),
            new Call("leastWith(0)", -1, x -> x.leastWith(0)),
            new Call("leastWith(9)", -2, x -> x.leastWith(9)),
            new Call("leastWithout(3)", 1, x -> x.leastWithout(3)),
            new Call("leastWithout(4)", -1, x -> x.leastWithout(4)),
            new Call("leastWithout(9)", -2, x -> x.leastWithout(9)),
            new Call("girth()", 1, FeedbackBreaker::girth),
            new Call("excess()", 2, FeedbackBreaker::excess),
        };
        for (Call call : last) {
            due.is("call 512: " + call.text(), call.ask(usedButForOneCall()), call.due());
        }
    }

    /** After 511 calls: the cycle of 9 vertices with an edge from 4 to itself, and 0 kept. */
    private static FeedbackBreaker usedButForOneCall() {
        FeedbackBreaker x = new FeedbackBreaker(9);
        int setting = 45 + 9;
        List<Call> refused = Call.refused(9);
        List<Call> questions = Call.questions(9);
        for (int call = 0; call < CALLS - 1 - setting; call++) {
            if (call % 4 == 0) x.link(call % 9, call % 7, call % 3);
            if (call % 4 == 1) x.ring(call % 9, 1 + call % 8, 1 + call % 12);
            if (call % 4 == 2) refused.get(call * 7 % refused.size()).ask(x);
            if (call % 4 == 3) questions.get(call * 7 % questions.size()).ask(x);
        }
        for (int v = 0; v < 9; v++) {
            for (int u = 0; u <= v; u++) x.link(u, v, v - u == 1 || v - u == 8 || u + v == 8 && u == v ? 1 : 0);
            x.keep(v, v == 0 ? 1 : 0);
        }
        return x;
    }

    /** The same: one and the same call, from the first to the 512th. */
    private static void sameCallUpToTheLast() {
        int[] ringDue = {1, 2, 3, 4, 5, 6, 7, 8, 9};
        FeedbackBreaker link = new FeedbackBreaker(9);
        FeedbackBreaker ring = new FeedbackBreaker(9);
        FeedbackBreaker keep = new FeedbackBreaker(9);
        for (int call = 0; call < CALLS; call++) {
            due.is("link call " + call, link.link(8, 0, (call + 1) % 3), call % 3);
            due.is("ring call " + call, ring.ring(call % 9, 1, 1), ringDue[Math.min(call, 8)]);
            due.is("keep call " + call, keep.keep(8, (call + 1) % 2), call % 2);
        }
        for (Call question : Call.questions(4)) {
            int first = question.ask(Graphs.start(Graphs.MIXED, 4));
            FeedbackBreaker x = Graphs.start(Graphs.MIXED, 4);
            int used = 10 + 4;
            for (int call = used; call < CALLS; call++) due.is(question.text() + " call " + call, question.ask(x), first);
        }
    }
}
