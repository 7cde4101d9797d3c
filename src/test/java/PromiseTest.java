/** Each promise of the document by hand: ordinary inputs, the edges it names, and wrong inputs. */
public final class PromiseTest {
    private static final int LOW = Integer.MIN_VALUE;
    private static final int HIGH = Integer.MAX_VALUE;

    private static final Due due = new Due();

    public static void main(String[] args) {
        promise1NewObject();
        promise2Vertices();
        promise3Link();
        promise4Ring();
        promise4RingBackOnItself();
        promise5Keep();
        promise6Edges();
        promise7Breaks();
        promise8Least();
        promise9First();
        promise10Breakers();
        promise11InBreakers();
        promise12LeastWith();
        promise13LeastWithout();
        promise14Girth();
        promise15Excess();
        due.exit();
    }

    private static void promise1NewObject() {
        int[] asked = {LOW, -1, 0, 1, 2, 3, 4, 5, 6, 7, 8, 9, 10, 11, HIGH};
        int[] made = {2, 2, 2, 2, 2, 3, 4, 5, 6, 7, 8, 9, 9, 9, 9};
        for (int i = 0; i < asked.length; i++) {
            FeedbackBreaker x = new FeedbackBreaker(asked[i]);
            String where = "1: new " + asked[i] + " ";
            due.is(where + "vertices", x.vertices(), made[i]);
            due.is(where + "edges", x.edges(), 0);
            due.is(where + "last vertex", x.keep(made[i] - 1, 0), 0);
            due.is(where + "past the last vertex", x.keep(made[i], 0), -1);
            due.is(where + "full set", x.breaks((1 << made[i]) - 1), 1);
            due.is(where + "past the full set", x.breaks(1 << made[i]), -1);
            for (int v = 0; v < made[i]; v++) {
                due.is(where + "kept at first", x.keep(v, 1), 0);
                for (int u = 0; u <= v; u++) due.is(where + "edges at first", x.link(u, v, 0), 0);
            }
        }
    }

    private static void promise2Vertices() {
        FeedbackBreaker x = new FeedbackBreaker(6);
        due.is("2: new", x.vertices(), 6);
        x.ring(0, 1, 12);
        x.keep(5, 1);
        due.is("2: after changes", x.vertices(), 6);
    }

    private static void promise3Link() {
        FeedbackBreaker x = new FeedbackBreaker(5);
        due.is("3: first", x.link(1, 3, 2), 0);
        due.is("3: other way round", x.link(3, 1, 1), 2);
        due.is("3: again", x.link(1, 3, 0), 1);
        due.is("3: taken away", x.link(1, 3, 0), 0);
        due.is("3: to itself", x.link(4, 4, 2), 0);
        due.is("3: to itself again", x.link(4, 4, 1), 2);
        due.is("3: edges", x.edges(), 1);
        due.is("3: neighbours untouched", x.link(4, 3, 1), 0);
        int[] bad = {-1, 5, 9, LOW, HIGH};
        for (int v : bad) {
            due.is("3: bad u", x.link(v, 0, 1), -1);
            due.is("3: bad v", x.link(0, v, 1), -1);
            due.is("3: both bad", x.link(v, v, 1), -1);
            due.is("3: u comes before many", x.link(v, 0, 3), -1);
            due.is("3: v comes before many", x.link(0, v, -1), -1);
        }
        int[] badMany = {-1, 3, LOW, HIGH};
        for (int many : badMany) {
            due.is("3: bad many", x.link(4, 4, many), -2);
            due.is("3: bad many of none", x.link(0, 1, many), -2);
        }
        due.is("3: refused ones changed nothing", x.edges(), 2);
        due.is("3: still one", x.link(4, 4, 0), 1);
    }

    private static void promise4Ring() {
        FeedbackBreaker x = new FeedbackBreaker(7);
        due.is("4: part of the way", x.ring(5, 1, 3), 3);
        due.is("4: 5 to 6", x.link(5, 6, 1), 1);
        due.is("4: 6 to 0", x.link(6, 0, 1), 1);
        due.is("4: 0 to 1", x.link(0, 1, 1), 1);
        due.is("4: not 1 to 2", x.link(1, 2, 0), 0);
        due.is("4: single", x.ring(2, 2, 1), 4);
        due.is("4: 2 to 4", x.link(2, 4, 1), 1);
        due.is("4: all the way", x.ring(0, 1, 7), 8);
        due.is("4: nothing new", x.ring(3, 6, 12), 8);
        x.link(0, 3, 2);
        due.is("4: two stay two", x.ring(0, 3, 7), 8 + 2 + 6);
        due.is("4: two stayed", x.link(0, 3, 2), 2);
        int[] badVertex = {-1, 7, 8, LOW, HIGH};
        for (int v : badVertex) {
            due.is("4: bad v", x.ring(v, 1, 1), -1);
            due.is("4: v comes first", x.ring(v, 0, 0), -1);
        }
        int[] badStep = {0, 9, -1, LOW, HIGH};
        for (int step : badStep) {
            due.is("4: bad step", x.ring(0, step, 1), -2);
            due.is("4: step comes before count", x.ring(0, step, 13), -2);
        }
        int[] badCount = {0, 13, -1, LOW, HIGH};
        for (int count : badCount) due.is("4: bad count", x.ring(0, 2, count), -3);
        due.is("4: refused ones changed nothing", x.edges(), 16);
    }

    private static void promise4RingBackOnItself() {
        FeedbackBreaker x = new FeedbackBreaker(4);
        due.is("4: step n is to itself", x.ring(3, 4, 12), 1);
        due.is("4: one to itself", x.link(3, 3, 0), 1);
        due.is("4: step 8 of 4", x.ring(1, 8, 1), 1);
        due.is("4: to itself too", x.link(1, 1, 2), 1);
        due.is("4: two to itself stay", x.ring(1, 8, 3), 2);
        due.is("4: half way and back", x.ring(0, 2, 2), 3);
        due.is("4: one edge only", x.link(0, 2, 1), 1);
        due.is("4: step over n", x.ring(0, 5, 4), 7);
        due.is("4: step 5 is step 1", x.link(3, 0, 1), 1);
        FeedbackBreaker y = new FeedbackBreaker(9);
        due.is("4: greatest arguments", y.ring(8, 8, 12), 9);
        FeedbackBreaker z = new FeedbackBreaker(9);
        due.is("4: count is kept to", z.ring(8, 8, 8), 8);
        due.is("4: the one left out", z.link(0, 8, 0), 0);
    }

    private static void promise5Keep() {
        FeedbackBreaker x = Graphs.cycleOf(3);
        due.is("5: first", x.keep(0, 1), 0);
        due.is("5: again", x.keep(0, -7), 1);
        due.is("5: free", x.keep(0, 0), 1);
        due.is("5: free again", x.keep(0, 0), 0);
        due.is("5: lowest flag", x.keep(1, LOW), 0);
        due.is("5: even flag", x.keep(2, 2), 0);
        due.is("5: 1 is kept", x.keep(1, 1), 1);
        due.is("5: 2 is kept", x.keep(2, 256), 1);
        due.is("5: only 0 is left", x.first(), 1);
        due.is("5: only 1 breaker", x.breakers(), 1);
        int[] bad = {-1, 3, 9, 32, 33, LOW, HIGH};
        for (int v : bad) {
            due.is("5: bad v", x.keep(v, 1), -1);
            due.is("5: bad v freed", x.keep(v, 0), -1);
        }
        due.is("5: 0 still free", x.keep(0, 0), 0);
        due.is("5: 1 still kept", x.keep(1, 0), 1);
        due.is("5: 2 still kept", x.keep(2, 0), 1);
        due.is("5: all free", x.breakers(), 3);
    }

    private static void promise6Edges() {
        FeedbackBreaker x = new FeedbackBreaker(9);
        due.is("6: none", x.edges(), 0);
        int sum = 0;
        for (int u = 0; u < 9; u++) {
            for (int v = u; v < 9; v++) {
                x.link(v, u, 2);
                sum += 2;
                due.is("6: growing", x.edges(), sum);
            }
        }
        due.is("6: full", x.edges(), 90);
        x.link(8, 8, 1);
        due.is("6: one less", x.edges(), 89);
        x.keep(8, 1);
        due.is("6: kept is no matter", x.edges(), 89);
    }

    private static void promise7Breaks() {
        FeedbackBreaker x = Graphs.bowTie();
        due.is("7: nothing", x.breaks(0), 0);
        due.is("7: the middle", x.breaks(4), 1);
        due.is("7: one side", x.breaks(1), 0);
        due.is("7: both sides", x.breaks(1 | 8), 1);
        due.is("7: one side twice", x.breaks(1 | 2), 0);
        due.is("7: all", x.breaks(31), 1);
        x.keep(2, 1);
        due.is("7: kept plays no part", x.breaks(4), 1);
        x.link(0, 0, 1);
        due.is("7: an edge to itself", x.breaks(4), 0);
        due.is("7: it is broken too", x.breaks(5), 1);
        x.link(3, 4, 2);
        due.is("7: two edges", x.breaks(5), 0);
        due.is("7: they are broken too", x.breaks(1 | 16), 1);
        int[] bad = {-1, 32, 33, 512, LOW, HIGH};
        for (int set : bad) due.is("7: bad set", x.breaks(set), -1);
        FeedbackBreaker y = new FeedbackBreaker(9);
        due.is("7: no cycle", y.breaks(0), 1);
        y.ring(0, 1, 8);
        due.is("7: a path", y.breaks(0), 1);
        y.link(8, 0, 1);
        due.is("7: closed", y.breaks(0), 0);
        due.is("7: greatest set", y.breaks(511), 1);
        due.is("7: past it", y.breaks(512), -1);
    }

    private static void promise8Least() {
        due.is("8: no cycle", new FeedbackBreaker(9).least(), 0);
        due.is("8: one cycle", Graphs.cycleOf(9).least(), 1);
        for (int n = 3; n <= 9; n++) due.is("8: complete " + n, Graphs.completeOf(n).least(), n - 2);
        FeedbackBreaker x = Graphs.bowTie();
        due.is("8: bow tie", x.least(), 1);
        x.keep(2, 1);
        due.is("8: bow tie without its middle", x.least(), 2);
        x.keep(0, 1);
        x.keep(1, 1);
        due.is("8: a cycle of kept ones", x.least(), -1);
        FeedbackBreaker y = new FeedbackBreaker(9);
        for (int v = 0; v < 9; v++) y.link(v, v, 1);
        due.is("8: all", y.least(), 9);
        y.keep(4, 1);
        due.is("8: all but a kept one", y.least(), -1);
        FeedbackBreaker z = new FeedbackBreaker(3);
        for (int v = 0; v < 3; v++) z.keep(v, 1);
        due.is("8: all kept, no cycle", z.least(), 0);
    }

    private static void promise9First() {
        due.is("9: no cycle", new FeedbackBreaker(9).first(), 0);
        FeedbackBreaker x = Graphs.bowTie();
        due.is("9: fewest before least number", x.first(), 4);
        x.keep(2, 1);
        due.is("9: least number", x.first(), 1 | 8);
        x.keep(0, 1);
        due.is("9: next", x.first(), 2 | 8);
        x.keep(3, 1);
        due.is("9: last", x.first(), 2 | 16);
        x.keep(4, 1);
        due.is("9: none", x.first(), -1);
        FeedbackBreaker y = new FeedbackBreaker(9);
        y.link(8, 8, 1);
        due.is("9: the highest vertex", y.first(), 256);
        for (int v = 0; v < 8; v++) y.link(v, v, 2);
        due.is("9: all", y.first(), 511);
    }

    private static void promise10Breakers() {
        due.is("10: no cycle", new FeedbackBreaker(9).breakers(), 1);
        due.is("10: one cycle", Graphs.cycleOf(9).breakers(), 9);
        due.is("10: complete 9", Graphs.completeOf(9).breakers(), 36);
        FeedbackBreaker x = Graphs.bowTie();
        due.is("10: bow tie", x.breakers(), 1);
        x.keep(2, 1);
        due.is("10: bow tie without its middle", x.breakers(), 4);
        x.keep(4, 1);
        due.is("10: fewer", x.breakers(), 2);
        x.keep(3, 1);
        due.is("10: none", x.breakers(), 0);
        FeedbackBreaker y = new FeedbackBreaker(9);
        for (int v = 0; v < 9; v++) y.link(v, v, 1);
        due.is("10: the full set alone", y.breakers(), 1);
    }

    private static void promise11InBreakers() {
        FeedbackBreaker x = Graphs.bowTie();
        due.is("11: the middle", x.inBreakers(2), 1);
        due.is("11: a side", x.inBreakers(0), 0);
        x.keep(2, 1);
        due.is("11: kept middle", x.inBreakers(2), 0);
        for (int v = 0; v < 5; v++) due.is("11: sides", x.inBreakers(v), v == 2 ? 0 : 2);
        x.keep(3, 1);
        x.keep(4, 1);
        for (int v = 0; v < 5; v++) due.is("11: no breaker", x.inBreakers(v), 0);
        int[] bad = {-1, 5, 9, 32, LOW, HIGH};
        for (int v : bad) due.is("11: bad v", x.inBreakers(v), -1);
        FeedbackBreaker y = Graphs.completeOf(9);
        for (int v = 0; v < 9; v++) due.is("11: complete 9", y.inBreakers(v), 28);
        FeedbackBreaker z = new FeedbackBreaker(2);
        due.is("11: the empty breaker", z.inBreakers(0), 0);
    }

    private static void promise12LeastWith() {
        FeedbackBreaker x = Graphs.bowTie();
        due.is("12: the middle", x.leastWith(2), 1);
        due.is("12: a side", x.leastWith(4), 2);
        x.keep(2, 1);
        due.is("12: a kept one", x.leastWith(2), -1);
        due.is("12: a side still", x.leastWith(4), 2);
        x.keep(0, 1);
        x.keep(1, 1);
        due.is("12: none breaks", x.leastWith(4), -1);
        int[] bad = {-1, 5, 9, 32, 33, LOW, HIGH};
        for (int v : bad) due.is("12: bad v", x.leastWith(v), -2);
        FeedbackBreaker y = new FeedbackBreaker(9);
        due.is("12: no cycle", y.leastWith(8), 1);
        for (int v = 0; v < 8; v++) y.link(v, v, 1);
        due.is("12: all", y.leastWith(8), 9);
        due.is("12: all but one", y.leastWith(7), 8);
    }

    private static void promise13LeastWithout() {
        FeedbackBreaker x = Graphs.bowTie();
        due.is("13: the middle", x.leastWithout(2), 2);
        due.is("13: a side", x.leastWithout(0), 1);
        x.keep(2, 1);
        due.is("13: a kept one", x.leastWithout(2), 2);
        due.is("13: a side again", x.leastWithout(0), 2);
        x.keep(1, 1);
        due.is("13: the last of a cycle", x.leastWithout(0), -1);
        due.is("13: it is asked, not kept", x.leastWith(0), 2);
        due.is("13: another", x.leastWithout(3), 2);
        int[] bad = {-1, 5, 9, 32, 33, LOW, HIGH};
        for (int v : bad) due.is("13: bad v", x.leastWithout(v), -2);
        FeedbackBreaker y = new FeedbackBreaker(9);
        due.is("13: no cycle", y.leastWithout(8), 0);
        y.link(8, 8, 1);
        due.is("13: an edge to itself", y.leastWithout(8), -1);
        due.is("13: elsewhere", y.leastWithout(7), 1);
    }

    private static void promise14Girth() {
        due.is("14: no edge", new FeedbackBreaker(9).girth(), 0);
        FeedbackBreaker path = new FeedbackBreaker(9);
        path.ring(0, 1, 8);
        due.is("14: a path", path.girth(), 0);
        for (int n = 3; n <= 9; n++) due.is("14: cycle " + n, Graphs.cycleOf(n).girth(), n);
        FeedbackBreaker x = Graphs.cycleOf(9);
        x.link(0, 4, 1);
        due.is("14: a chord", x.girth(), 5);
        x.link(0, 3, 1);
        due.is("14: another", x.girth(), 3);
        x.link(7, 8, 2);
        due.is("14: two edges", x.girth(), 2);
        x.link(8, 8, 1);
        due.is("14: to itself", x.girth(), 1);
        x.keep(8, 1);
        due.is("14: kept is no matter", x.girth(), 1);
        x.link(8, 8, 2);
        due.is("14: to itself twice", x.girth(), 1);
        FeedbackBreaker y = new FeedbackBreaker(2);
        y.link(0, 1, 1);
        due.is("14: one edge", y.girth(), 0);
        y.link(0, 1, 2);
        due.is("14: n is 2", y.girth(), 2);
        y.link(0, 0, 1);
        due.is("14: to itself at 0", y.girth(), 1);
    }

    private static void promise15Excess() {
        due.is("15: no edge", new FeedbackBreaker(9).excess(), 0);
        due.is("15: one cycle", Graphs.cycleOf(9).excess(), 1);
        due.is("15: complete 9", Graphs.completeOf(9).excess(), 28);
        FeedbackBreaker x = Graphs.bowTie();
        due.is("15: bow tie", x.excess(), 2);
        x.link(0, 0, 2);
        due.is("15: to itself twice", x.excess(), 4);
        x.link(3, 4, 2);
        due.is("15: two edges", x.excess(), 5);
        x.keep(0, 1);
        due.is("15: kept is no matter", x.excess(), 5);
        FeedbackBreaker y = new FeedbackBreaker(9);
        y.link(0, 1, 1);
        y.link(7, 8, 1);
        due.is("15: parts without a cycle", y.excess(), 0);
        y.link(1, 0, 2);
        y.link(8, 7, 2);
        due.is("15: a cycle in each part", y.excess(), 2);
    }
}
