/** Promises 6 to 15: each sentence that names a boundary case has a test of its own. */
public final class QuestionEdgeTest {
    private static final Due due = new Due();

    public static void main(String[] args) {
        for (int n = 2; n <= 9; n++) {
            promise6NoneAndAsManyAsCanBe(n);
            promise7SetOutside(n);
            promise7SetInside(n);
            promise7KeptPlaysNoPart(n);
            promises8To10NoAllowedSetBreaks(n);
            promises8To10LastAllowedSetBreaks(n);
            promises8To10NoCycle(n);
            promises8To10AsManyEdgesAsCanBe(n);
            promise10EveryBreakerCounts(n);
            promise11VertexNotGood(n);
            promise11InNoBreaker(n);
            promise11InEveryBreaker(n);
            promise12VertexNotGood(n);
            promise12NoneContainsIt(n);
            promise12SmallestAndGreatest(n);
            promise13VertexNotGood(n);
            promise13NoneIsWithoutIt(n);
            promise13SmallestAndGreatest(n);
            promise14NoCycle(n);
            promise14EdgeToItself(n);
            promise14TwoEdges(n);
            promise14ThreeOrMore(n);
            promise14KeptPlaysNoPart(n);
            promise15NoEdge(n);
            promise15NoCycle(n);
            promise15OneTooMany(n);
            promise15AsManyEdgesAsCanBe(n);
        }
        promise7SetAt2To9();
        due.exit();
    }

    private static void answers(String where, FeedbackBreaker x, int least, int first, int breakers) {
        due.is(where + " least", x.least(), least);
        due.is(where + " first", x.first(), first);
        due.is(where + " breakers", x.breakers(), breakers);
    }

    /** "How many edges there are in all." */
    private static void promise6NoneAndAsManyAsCanBe(int n) {
        int pairs = n * (n + 1) / 2;
        due.is("6: none of " + n, new FeedbackBreaker(n).edges(), 0);
        due.is("6: one everywhere of " + n, Graphs.start(Graphs.ONE_EVERYWHERE, n).edges(), pairs);
        FeedbackBreaker x = Graphs.start(Graphs.TWO_EVERYWHERE, n);
        due.is("6: two everywhere of " + n, x.edges(), 2 * pairs);
        x.link(n - 1, n - 1, 1);
        due.is("6: one fewer of " + n, x.edges(), 2 * pairs - 1);
        x.link(0, n - 1, 0);
        due.is("6: two fewer of " + n, x.edges(), 2 * pairs - 3);
        Graphs.keepAll(x);
        due.is("6: all kept of " + n, x.edges(), 2 * pairs - 3);
    }

    /** "-1 if set is not in 0 .. 2^n - 1" */
    private static void promise7SetOutside(int n) {
        for (int kind = 0; kind < Graphs.KINDS; kind++) {
            FeedbackBreaker x = Graphs.start(kind, n);
            for (int set : Call.badSets(n)) due.is("7: set " + set + " of " + n, x.breaks(set), -1);
        }
    }

    /** "1 if the set breaks the graph, otherwise 0", from the first set to the last */
    private static void promise7SetInside(int n) {
        for (int kind = 0; kind < Graphs.KINDS; kind++) {
            boolean[] breaking = Graphs.modelOf(kind, n).breaking();
            for (int set = 0; set < 1 << n; set++) {
                FeedbackBreaker x = Graphs.start(kind, n);
                due.is("7: kind " + kind + " set " + set + " of " + n, x.breaks(set), breaking[set] ? 1 : 0);
            }
        }
        FeedbackBreaker loops = Graphs.loopsOf(n);
        due.is("7: the empty set of " + n, loops.breaks(0), 0);
        due.is("7: the last set but one of " + n, loops.breaks((1 << n) - 2), 0);
        due.is("7: the last set of " + n, loops.breaks((1 << n) - 1), 1);
    }

    /** The same, with the greatest n. */
    private static void promise7SetAt2To9() {
        FeedbackBreaker x = new FeedbackBreaker(9);
        due.is("7: 511", x.breaks(511), 1);
        due.is("7: 512", x.breaks(512), -1);
        due.is("7: 1023", x.breaks(1023), -1);
    }

    /** "Kept vertices play no part." */
    private static void promise7KeptPlaysNoPart(int n) {
        for (int kind = 0; kind < Graphs.KINDS; kind++) {
            boolean[] breaking = Graphs.modelOf(kind, n).breaking();
            for (int set = 0; set < 1 << n; set++) {
                FeedbackBreaker x = Graphs.keepAll(Graphs.start(kind, n));
                due.is("7: kept, kind " + kind + " set " + set, x.breaks(set), breaking[set] ? 1 : 0);
            }
        }
        for (int v = 0; v < n; v++) {
            FeedbackBreaker x = new FeedbackBreaker(n);
            x.link(v, v, 1);
            x.keep(v, 1);
            due.is("7: a kept vertex has a cycle", x.breaks(0), 0);
            due.is("7: a kept vertex breaks it", x.breaks(1 << v), 1);
        }
    }

    /** "-1 if no allowed set breaks the graph" twice, and "(0 if no allowed set breaks the graph)" */
    private static void promises8To10NoAllowedSetBreaks(int n) {
        for (int v = 0; v < n; v++) {
            FeedbackBreaker loop = new FeedbackBreaker(n);
            loop.link(v, v, 1);
            loop.keep(v, 1);
            answers("8 to 10: kept, to itself", loop, -1, -1, 0);
            FeedbackBreaker twice = new FeedbackBreaker(n);
            int next = (v + 1) % n;
            twice.link(v, next, 2);
            twice.keep(v, 1);
            twice.keep(next, 1);
            answers("8 to 10: kept, two edges", twice, -1, -1, 0);
        }
        for (int k = 3; k <= n; k++) {
            FeedbackBreaker round = new FeedbackBreaker(n);
            round.ring(n - k, 1, k - 1);
            round.link(n - 1, n - k, 1);
            for (int v = n - k; v < n; v++) round.keep(v, 1);
            answers("8 to 10: kept, round of " + k, round, -1, -1, 0);
        }
        FeedbackBreaker full = Graphs.keepAll(Graphs.start(Graphs.TWO_EVERYWHERE, n));
        answers("8 to 10: all kept", full, -1, -1, 0);
    }

    /** The same sentences, where just one vertex of the cycle may go: "-1" is not due yet. */
    private static void promises8To10LastAllowedSetBreaks(int n) {
        for (int v = 0; v < n; v++) {
            FeedbackBreaker x = n == 2 ? new FeedbackBreaker(2) : Graphs.cycleOf(n);
            if (n == 2) x.link(0, 1, 2);
            Graphs.keepAll(x);
            answers("8 to 10: all kept", x, -1, -1, 0);
            x.keep(v, 0);
            answers("8 to 10: only " + v + " may go", x, 1, 1 << v, 1);
            x.keep(v, 1);
            answers("8 to 10: kept once more", x, -1, -1, 0);
        }
    }

    /** "How many members a breaker has", "The first breaker", "How many breakers there are", with no cycle */
    private static void promises8To10NoCycle(int n) {
        answers("8 to 10: no edge", new FeedbackBreaker(n), 0, 0, 1);
        answers("8 to 10: no cycle", Graphs.pathOf(n), 0, 0, 1);
        answers("8 to 10: no cycle, all kept", Graphs.keepAll(Graphs.pathOf(n)), 0, 0, 1);
    }

    /** The same, with as many members as a breaker can have. */
    private static void promises8To10AsManyEdgesAsCanBe(int n) {
        int all = (1 << n) - 1;
        answers("8 to 10: two everywhere", Graphs.start(Graphs.TWO_EVERYWHERE, n), n, all, 1);
        answers("8 to 10: one everywhere", Graphs.start(Graphs.ONE_EVERYWHERE, n), n, all, 1);
        FeedbackBreaker x = Graphs.loopsOf(n);
        answers("8 to 10: loops", x, n, all, 1);
        for (int v = 0; v < n; v++) {
            x.link(v, v, 0);
            answers("8 to 10: loops but " + v, x, n - 1, all - (1 << v), 1);
            x.keep(v, 1);
            answers("8 to 10: loops but kept " + v, x, n - 1, all - (1 << v), 1);
            x.link(v, v, 2);
            answers("8 to 10: loops, kept " + v, x, -1, -1, 0);
            x.keep(v, 0);
        }
    }

    /** "How many breakers there are", from the lowest set to the highest of that size */
    private static void promise10EveryBreakerCounts(int n) {
        due.is("10: complete of " + n, Graphs.completeOf(n).breakers(), n == 2 ? 1 : n * (n - 1) / 2);
        FeedbackBreaker x = new FeedbackBreaker(n);
        for (int u = 0; u < n; u++) {
            for (int v = 0; v < u; v++) x.link(u, v, 2);
        }
        answers("10: two between any two of " + n, x, n - 1, (1 << (n - 1)) - 1, n);
        x.keep(n - 1, 1);
        answers("10: only the first of these", x, n - 1, (1 << (n - 1)) - 1, 1);
        x.keep(n - 1, 0);
        x.keep(0, 1);
        answers("10: only the last of these", x, n - 1, (1 << n) - 2, 1);
        x.keep(1, 1);
        answers("10: none of these", x, -1, -1, 0);
    }

    /** "-1 if v is not good" */
    private static void promise11VertexNotGood(int n) {
        for (int kind = 0; kind < Graphs.KINDS; kind++) {
            FeedbackBreaker x = Graphs.start(kind, n);
            for (int bad : Call.badVertices(n)) due.is("11: v is " + bad + " of " + n, x.inBreakers(bad), -1);
        }
    }

    /** "In how many breakers a vertex is", where it is in none */
    private static void promise11InNoBreaker(int n) {
        for (int v = 0; v < n; v++) {
            due.is("11: no cycle", Graphs.pathOf(n).inBreakers(v), 0);
            FeedbackBreaker none = Graphs.keepAll(Graphs.loopsOf(n));
            due.is("11: no allowed set breaks", none.inBreakers(v), 0);
            FeedbackBreaker kept = new FeedbackBreaker(n);
            int next = (v + 1) % n;
            kept.link(v, next, 2);
            kept.keep(v, 1);
            due.is("11: a kept one", kept.inBreakers(v), 0);
            due.is("11: the other one", kept.inBreakers(next), 1);
            FeedbackBreaker aside = Graphs.loopsOf(n);
            aside.link(v, v, 0);
            due.is("11: one aside", aside.inBreakers(v), 0);
            due.is("11: one beside it", aside.inBreakers(next), 1);
        }
    }

    /** "In how many breakers a vertex is", where it is in all or in all but one */
    private static void promise11InEveryBreaker(int n) {
        FeedbackBreaker twice = new FeedbackBreaker(n);
        for (int u = 0; u < n; u++) {
            for (int v = 0; v < u; v++) twice.link(u, v, 2);
        }
        for (int v = 0; v < n; v++) {
            due.is("11: all", Graphs.loopsOf(n).inBreakers(v), 1);
            due.is("11: all but one", twice.inBreakers(v), n - 1);
        }
    }

    /** "-2 if v is not good", also where "-1 if there is none" would be due for a good one */
    private static void promise12VertexNotGood(int n) {
        for (int kind = 0; kind < Graphs.KINDS; kind++) {
            FeedbackBreaker x = Graphs.start(kind, n);
            for (int bad : Call.badVertices(n)) due.is("12: v is " + bad + " of " + n, x.leastWith(bad), -2);
        }
        FeedbackBreaker none = Graphs.keepAll(Graphs.loopsOf(n));
        for (int bad : Call.badVertices(n)) due.is("12: none, v is " + bad, none.leastWith(bad), -2);
    }

    /** "-1 if there is none" */
    private static void promise12NoneContainsIt(int n) {
        for (int v = 0; v < n; v++) {
            FeedbackBreaker kept = new FeedbackBreaker(n);
            kept.keep(v, 1);
            due.is("12: a kept one, no cycle", kept.leastWith(v), -1);
            due.is("12: one beside it", kept.leastWith((v + 1) % n), 1);
            kept.link(v, v, 1);
            due.is("12: a kept one, to itself", kept.leastWith(v), -1);
            due.is("12: no allowed set breaks", kept.leastWith((v + 1) % n), -1);
            kept.keep(v, 0);
            due.is("12: not kept any more", kept.leastWith(v), 1);
            due.is("12: one more than needed", kept.leastWith((v + 1) % n), 2);
        }
    }

    /** "The number of members of the smallest allowed set that breaks the graph and contains v" */
    private static void promise12SmallestAndGreatest(int n) {
        for (int v = 0; v < n; v++) {
            due.is("12: no cycle", Graphs.pathOf(n).leastWith(v), 1);
            due.is("12: all", Graphs.start(Graphs.TWO_EVERYWHERE, n).leastWith(v), n);
            FeedbackBreaker x = Graphs.loopsOf(n);
            x.link(v, v, 0);
            due.is("12: all, though it is not needed", x.leastWith(v), n);
            due.is("12: all but that one", x.leastWith((v + 1) % n), n - 1);
        }
    }

    /** "-2 if v is not good", also where "-1 if there is none" would be due for a good one */
    private static void promise13VertexNotGood(int n) {
        for (int kind = 0; kind < Graphs.KINDS; kind++) {
            FeedbackBreaker x = Graphs.start(kind, n);
            for (int bad : Call.badVertices(n)) due.is("13: v is " + bad + " of " + n, x.leastWithout(bad), -2);
        }
        FeedbackBreaker none = Graphs.keepAll(Graphs.loopsOf(n));
        for (int bad : Call.badVertices(n)) due.is("13: none, v is " + bad, none.leastWithout(bad), -2);
    }

    /** "-1 if there is none" */
    private static void promise13NoneIsWithoutIt(int n) {
        for (int v = 0; v < n; v++) {
            FeedbackBreaker x = new FeedbackBreaker(n);
            int next = (v + 1) % n;
            x.link(v, v, 1);
            due.is("13: to itself", x.leastWithout(v), -1);
            due.is("13: one beside it", x.leastWithout(next), 1);
            x.link(v, v, 0);
            x.link(v, next, 2);
            due.is("13: the other one may go", x.leastWithout(v), 1);
            x.keep(next, 1);
            due.is("13: the other one is kept", x.leastWithout(v), -1);
            due.is("13: without the kept one", x.leastWithout(next), 1);
            x.keep(v, 1);
            due.is("13: both are kept", x.leastWithout(v), -1);
            due.is("13: both are kept, the other", x.leastWithout(next), -1);
        }
    }

    /** "The number of members of the smallest allowed set that breaks the graph and does not contain v" */
    private static void promise13SmallestAndGreatest(int n) {
        for (int v = 0; v < n; v++) {
            due.is("13: no cycle", Graphs.pathOf(n).leastWithout(v), 0);
            due.is("13: no cycle, all kept", Graphs.keepAll(Graphs.pathOf(n)).leastWithout(v), 0);
            due.is("13: two everywhere", Graphs.start(Graphs.TWO_EVERYWHERE, n).leastWithout(v), -1);
            FeedbackBreaker x = Graphs.loopsOf(n);
            x.link(v, v, 0);
            due.is("13: all but that one", x.leastWithout(v), n - 1);
        }
    }

    /** "0 if there is no cycle" */
    private static void promise14NoCycle(int n) {
        due.is("14: no edge of " + n, new FeedbackBreaker(n).girth(), 0);
        due.is("14: a path of " + n, Graphs.pathOf(n).girth(), 0);
        FeedbackBreaker star = new FeedbackBreaker(n);
        for (int v = 0; v < n - 1; v++) star.link(n - 1, v, 1);
        due.is("14: a star of " + n, star.girth(), 0);
        FeedbackBreaker gone = Graphs.cycleOf(n);
        gone.link(n - 1, 0, 0);
        due.is("14: a cycle that is gone of " + n, gone.girth(), 0);
    }

    /** "1 for an edge from a vertex to itself" */
    private static void promise14EdgeToItself(int n) {
        for (int v = 0; v < n; v++) {
            FeedbackBreaker x = new FeedbackBreaker(n);
            x.link(v, v, 1);
            due.is("14: one to itself", x.girth(), 1);
            x.link(v, v, 2);
            due.is("14: two to itself", x.girth(), 1);
            x.link(v, (v + 1) % n, 2);
            due.is("14: and two edges", x.girth(), 1);
            x.ring(0, 1, n);
            due.is("14: and a round", x.girth(), 1);
            x.link(v, v, 0);
            due.is("14: none to itself", x.girth(), 2);
        }
    }

    /** "2 for two edges between two vertices" */
    private static void promise14TwoEdges(int n) {
        for (int u = 0; u < n; u++) {
            for (int v = 0; v < u; v++) {
                FeedbackBreaker x = Graphs.completeOf(n);
                int shortest = n == 2 ? 0 : 3;
                due.is("14: one edge", x.girth(), shortest);
                x.link(u, v, 2);
                due.is("14: two edges", x.girth(), 2);
                x.link(u, v, 1);
                due.is("14: one edge again", x.girth(), shortest);
            }
        }
    }

    /** "The length of a shortest cycle", from 3 vertices to all */
    private static void promise14ThreeOrMore(int n) {
        for (int k = 3; k <= n; k++) {
            FeedbackBreaker x = new FeedbackBreaker(n);
            x.ring(n - k, 1, k - 1);
            due.is("14: open round of " + k, x.girth(), 0);
            x.link(n - k, n - 1, 1);
            due.is("14: round of " + k, x.girth(), k);
            x.ring(0, 1, n);
            // The edge that closed the round now cuts the round of all vertices in two.
            due.is("14: cut at " + k, x.girth(), k == n ? n : Math.min(k, n - k + 2));
        }
    }

    /** "The length of a shortest cycle": a kept vertex is in it as any other */
    private static void promise14KeptPlaysNoPart(int n) {
        for (int kind = 0; kind < Graphs.KINDS; kind++) {
            int free = Graphs.modelOf(kind, n).girth();
            due.is("14: all kept, kind " + kind, Graphs.keepAll(Graphs.start(kind, n)).girth(), free);
        }
    }

    /** "How many edges must be taken away at least so that no cycle is left", with no edge at all */
    private static void promise15NoEdge(int n) {
        due.is("15: no edge of " + n, new FeedbackBreaker(n).excess(), 0);
        due.is("15: no edge, all kept", Graphs.keepAll(new FeedbackBreaker(n)).excess(), 0);
    }

    /** The same, with edges and no cycle. */
    private static void promise15NoCycle(int n) {
        due.is("15: a path of " + n, Graphs.pathOf(n).excess(), 0);
        FeedbackBreaker apart = new FeedbackBreaker(n);
        for (int v = 0; v + 1 < n; v += 2) apart.link(v, v + 1, 1);
        due.is("15: pairs of " + n, apart.excess(), 0);
    }

    /** The same, with one cycle of each kind. */
    private static void promise15OneTooMany(int n) {
        for (int v = 0; v < n; v++) {
            FeedbackBreaker x = Graphs.pathOf(n);
            x.link(v, v, 1);
            due.is("15: one to itself", x.excess(), 1);
            x.link(v, v, 2);
            due.is("15: two to itself", x.excess(), 2);
            x.link(v, v, 0);
            x.link(v, (v + 1) % n, 2);
            due.is("15: two edges", x.excess(), n > 2 && v == n - 1 ? 2 : 1);
            Graphs.keepAll(x);
            due.is("15: two edges, all kept", x.excess(), n > 2 && v == n - 1 ? 2 : 1);
        }
        due.is("15: once round " + n, Graphs.cycleOf(n).excess(), n == 2 ? 0 : 1);
    }

    /** The same, with as many edges as there can be: of these a tree on all vertices may stay. */
    private static void promise15AsManyEdgesAsCanBe(int n) {
        FeedbackBreaker two = Graphs.start(Graphs.TWO_EVERYWHERE, n);
        due.is("15: two everywhere of " + n, two.excess(), n * (n + 1) - (n - 1));
        Graphs.keepAll(two);
        due.is("15: two everywhere, all kept", two.excess(), n * (n + 1) - (n - 1));
        FeedbackBreaker one = Graphs.start(Graphs.ONE_EVERYWHERE, n);
        due.is("15: one everywhere of " + n, one.excess(), n * (n + 1) / 2 - (n - 1));
        FeedbackBreaker loops = Graphs.loopsOf(n);
        due.is("15: all to themselves of " + n, loops.excess(), n);
    }
}
