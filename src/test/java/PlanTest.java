import java.util.Random;

/** Promises 7 to 12: plan, look, ofEdge, ofBlock, solve, ring. */
public final class PlanTest {
    private static final int MIN = Integer.MIN_VALUE;
    private static final int MAX = Integer.MAX_VALUE;
    private static final String DIAMOND = "F G G L";
    private static final String DIAMOND_EDGES = "0>1:10 0>2:5 1>3:10 2>3:5";

    public static void main(String[] args) {
        planning();
        planningAnew();
        looking();
        edgesLookedAt();
        blocksLookedAt();
        stands();
        solving();
        rings();
        leastGuesses();
        Check.end("PlanTest");
    }

    private static void planning() {
        CounterPlacer x = new CounterPlacer();
        Check.due("plan of no routine", x.plan(0), -1);
        int open = Build.open(x, DIAMOND, DIAMOND_EDGES);
        Check.due("plan of one not finished", x.plan(open), -1);
        x.finish(open);
        Check.due("plan", x.plan(open), 2);
        for (int r : new int[] {-1, 1, 8, MIN, MAX}) {
            Check.due("plan of no routine", x.plan(r), -1);
        }
        int caller = Build.finished(x, "C0 L", "0>1:1");
        x.begin(caller);
        Check.due("plan of one without a frame", x.plan(open), 2);
        Check.due("plan of one with a frame", x.plan(caller), -1);
        x.go(1, 0);
        Check.due("plan of one above", x.plan(open), -1);
        Check.due("plan of one below", x.plan(caller), -1);
        x.go(99, 0);
        Check.due("plan when the run is ended", x.plan(caller), 1);
        Check.due("a routine of one block", x.plan(Build.finished(x, "L", "")), 0);
        Check.due("ties: the lesser number first",
                Check.ofEdge(x, Build.finished(x, "F G L", "0>1:3 0>2:9 1>2:3"), 2, 4), 1);
    }

    private static void planningAnew() {
        CounterPlacer x = new CounterPlacer();
        int r = Build.finished(x, DIAMOND, DIAMOND_EDGES);
        int many = Build.finished(x, "F F F F F L", "0>1:1 0>1:1 1>2:1 1>2:1 2>3:1 2>3:1 3>4:1 3>4:1 4>5:1 4>5:1");
        x.begin(r);
        x.go(2, 0);
        for (int i = 0; i < 32; i++) {
            x.begin(many);
            x.go(6, (i & 1) | (i & 2) << 1 | (i & 4) << 2 | (i & 8) << 3 | (i & 16) << 4);
        }
        Check.due("entries", Check.look(x, many, 6), 32);
        Check.due("rows", Check.look(x, many, 8), 16);
        Check.due("fell out", Check.look(x, many, 7), 16);
        Check.due("stopped", Check.look(x, r, 9), 1);
        x.guess(r, 3, 20);
        Check.due("plan", x.plan(r), 2);
        Check.due("plan", x.plan(many), Check.look(x, many, 3));
        for (int what = 6; what < 10; what++) {
            Check.due("look " + what + " of the one", Check.look(x, r, what), 0);
            Check.due("look " + what + " of the other", Check.look(x, many, what), 0);
        }
        for (int e = 0; e < 4; e++) {
            Check.due("true count", Check.ofEdge(x, r, e, 6), 0);
            Check.due("counter", Check.ofEdge(x, r, e, 7), 0);
            Check.due("solved", x.solve(r, e), 0);
            Check.due("told", x.told(r, e), 0);
            Check.due("has a counter", Check.ofEdge(x, r, e, 4), e == 1 || e == 2 ? 1 : 0);
        }
        Check.due("stopped", Check.ofBlock(x, r, 1, 7), 0);
        Check.due("table", x.table(many, 0, 0), -1);
        Check.due("light moved", Check.ofEdge(x, r, 3, 9), 0);
        Check.due("light moved", Check.ofEdge(x, r, 1, 9), 1);
        Check.due("P moved", Check.ofBlock(x, r, 2, 6), 0);
    }

    private static void looking() {
        CounterPlacer x = new CounterPlacer();
        int r = Build.open(x, DIAMOND, DIAMOND_EDGES);
        long[] before = {4, 4, 0, 0, 0, 0, 0, 0, 0, 0};
        for (int what = 0; what < 10; what++) {
            Check.due("look " + what + " not finished", Check.look(x, r, what), before[what]);
        }
        x.finish(r);
        x.begin(r);
        x.go(9, 0);
        x.begin(r);
        x.go(9, 1);
        x.begin(r);
        x.begin(r);
        long[] after = {4, 4, 1, 2, 15, 2, 4, 0, 2, 1};
        for (int what = 0; what < 10; what++) {
            Check.due("look " + what, Check.look(x, r, what), after[what]);
        }
        for (int what : new int[] {-1, 10, MIN, MAX}) {
            Check.due("no such what", Check.look(x, r, what), Check.NO_ELEMENT);
            Check.due("no such routine, and what", Check.look(x, 1, what), Check.INDEX);
        }
        for (int none : new int[] {-1, 1, 8, MIN, MAX}) {
            Check.due("no such routine", Check.look(x, none, 0), Check.INDEX);
        }
    }

    private static void edgesLookedAt() {
        CounterPlacer x = new CounterPlacer();
        int r = Build.open(x, DIAMOND, DIAMOND_EDGES);
        long[] before = {2, 3, 5, 0, 0, -1, 0, 0, 0, 0};
        for (int what = 0; what < 10; what++) {
            Check.due("ofEdge " + what + " not finished", Check.ofEdge(x, r, 3, what), before[what]);
        }
        x.finish(r);
        x.begin(r);
        x.go(9, 1);
        x.begin(r);
        x.go(2, 1);
        long[] three = {2, 3, 5, 0, 1, 1, 2, 2, 0, 1};
        long[] one = {0, 2, 5, 0, 0, -1, 2, 0, 1, 0};
        for (int what = 0; what < 10; what++) {
            Check.due("ofEdge 3 " + what, Check.ofEdge(x, r, 3, what), three[what]);
            Check.due("ofEdge 1 " + what, Check.ofEdge(x, r, 1, what), one[what]);
        }
        for (int what : new int[] {-1, 10, MIN, MAX}) {
            Check.due("no such what", Check.ofEdge(x, r, 0, what), Check.NO_ELEMENT);
            Check.due("no such edge, and what", Check.ofEdge(x, r, 4, what), Check.INDEX);
        }
        for (int none : new int[] {-1, 4, 40, 61, MIN, MAX}) {
            Check.due("no such edge", Check.ofEdge(x, r, none, 0), Check.INDEX);
            Check.due("no such routine", Check.ofEdge(x, none, 0, 0), Check.INDEX);
        }
    }

    private static void blocksLookedAt() {
        CounterPlacer x = new CounterPlacer();
        int r = Build.open(x, "G F C0 L", "0>1:1 1>2:9 1>3:1 2>1:9*");
        long[] before = {1, -1, 2, 2, 0, -1, 0, 0, 0};
        for (int what = 0; what < 9; what++) {
            Check.due("ofBlock " + what + " not finished", Check.ofBlock(x, r, 1, what), before[what]);
        }
        x.finish(r);
        x.begin(r);
        x.go(1, 0);
        x.begin(r);
        x.go(5, 0);
        // the tree 0-1-2, 1-3: block 3 stands 1 behind block 1
        long[] one = {1, -1, 2, 2, 2, 2, 0, 1, 0};
        // it calls itself, so two frames stand in block 2
        long[] two = {2, 0, 1, 1, 1, -1, 0, 0, 2};
        long[] three = {3, -1, 0, 1, 1, -1, 1, 0, 0};
        for (int what = 0; what < 9; what++) {
            Check.due("ofBlock 1 " + what, Check.ofBlock(x, r, 1, what), one[what]);
            Check.due("ofBlock 2 " + what, Check.ofBlock(x, r, 2, what), two[what]);
            Check.due("ofBlock 3 " + what, Check.ofBlock(x, r, 3, what), three[what]);
        }
        for (int what : new int[] {-1, 9, MIN, MAX}) {
            Check.due("no such what", Check.ofBlock(x, r, 0, what), Check.NO_ELEMENT);
            Check.due("no such block, and what", Check.ofBlock(x, r, 4, what), Check.INDEX);
        }
        for (int none : new int[] {-1, 4, 20, MIN, MAX}) {
            Check.due("no such block", Check.ofBlock(x, r, none, 0), Check.INDEX);
            Check.due("no such routine", Check.ofBlock(x, none, 0, 0), Check.INDEX);
        }
    }

    private static void stands() {
        CounterPlacer x = new CounterPlacer();
        // a fork back to block 0, which END enters, too: a block of its own
        int r = Build.finished(x, "F L", "0>0:0* 0>1:5");
        Check.due("into block 0", Check.ofEdge(x, r, 0, 5), 0);
        Check.due("into a block of one edge", Check.ofEdge(x, r, 1, 5), 2);
        r = Build.finished(x, "G L", "0>1:5");
        Check.due("neither has others", Check.ofEdge(x, r, 0, 5), 1);
        r = Build.finished(x, "F L", "0>1:5 0>1:5");
        Check.due("both have others", Check.ofEdge(x, r, 0, 5), 0);
        Check.due("both have others", Check.ofEdge(x, r, 1, 5), 0);
        r = Build.finished(x, "F G L", "0>1:0 0>2:5 1>0:0*");
        Check.due("in the tree", Check.ofEdge(x, r, 0, 5), -1);
        Check.due("at the end of from", Check.ofEdge(x, r, 2, 5), 1);
    }

    private static void solving() {
        CounterPlacer x = new CounterPlacer();
        Check.due("solve of no routine", x.solve(0, 0), -1);
        int r = Build.open(x, "F G C1 L S", "0>1:4 0>2:7 0>4:2 1>0:4* 2>3:7");
        Check.due("solve of one not finished", x.solve(r, 0), -1);
        x.finish(r);
        int called = Build.finished(x, "F L S", "0>1:3 0>2:1");
        for (int e : new int[] {-1, 5, 40, MIN, MAX}) {
            Check.due("solve of no edge", x.solve(r, e), -1);
        }
        Random random = new Random(5);
        for (int i = 0; i < 60; i++) {
            if (i % 3 == 0) {
                x.begin(random.nextInt(2));
            }
            x.go(1 + random.nextInt(9), random.nextInt());
            for (int e = 0; e < 5; e++) {
                Check.due("solved", x.solve(r, e), Check.ofEdge(x, r, e, 6));
            }
            Check.due("solved", x.solve(called, 0), Check.ofEdge(x, called, 0, 6));
            Check.due("solved", x.solve(called, 1), Check.ofEdge(x, called, 1, 6));
        }
        Check.due("something ran", x.solve(r, 1) > 0, true);
    }

    private static void rings() {
        CounterPlacer x = new CounterPlacer();
        Check.due("ring of no routine", x.ring(0, 0, 0), -1);
        int r = Build.open(x, "F F G L", "0>1:9 1>2:9 1>3:1 0>2:2 2>3:9 0>0:3*");
        Check.due("ring of one not finished", x.ring(r, 2, 0), -1);
        x.finish(r);
        // the tree is END's edges, 0 (0>1) and 1 (1>2)
        int[][] due = {{2, 1, 0, 1, 0, 0, 0}, {3, 2, 2, 0, 1, 0, 0}, {4, 1, 1, 0, 0, 1, 0}, {5, 0, 0, 0, 0, 0, 1}};
        for (int[] row : due) {
            for (int e = 0; e < 6; e++) {
                Check.due("ring of " + row[0] + " at " + e, x.ring(r, row[0], e), row[e + 1]);
            }
        }
        Check.due("no counter", x.ring(r, 0, 0), -1);
        for (int none : new int[] {-1, 6, 40, MIN, MAX}) {
            Check.due("no such counter", x.ring(r, none, 0), -1);
            Check.due("no such edge", x.ring(r, 2, none), -1);
            Check.due("no such routine", x.ring(none, 2, 0), -1);
        }
    }

    /** No other choice of as many counters, from which all follows, has lesser guesses. */
    private static void leastGuesses() {
        Random random = new Random(11);
        for (int i = 0; i < 200; i++) {
            CounterPlacer x = new CounterPlacer();
            int r = Build.open(x, "F F F L L", "");
            for (int b = 0; b < 3; b++) {
                for (int k = 0; k < 3; k++) {
                    int to = k == 0 ? b + 1 : random.nextInt(5);
                    x.edge(r, b, to, random.nextInt(7), to <= b);
                }
            }
            if (x.finish(r) == 0) {
                Check.due("guesses of counters", Check.look(x, r, 4), leastOf(x, r));
            }
        }
    }

    private static long leastOf(CounterPlacer x, int r) {
        int edges = (int) x.look(r, 1);
        int counters = (int) x.look(r, 3);
        long least = Long.MAX_VALUE;
        for (int set = 0; set < 1 << edges; set++) {
            if (Integer.bitCount(set) == counters && restHasNoRing(x, r, set)) {
                long sum = 0;
                for (int e = 0; e < edges; e++) {
                    sum += (set >> e & 1) != 0 ? x.ofEdge(r, e, 2) : 0;
                }
                least = Math.min(least, sum);
            }
        }
        return least;
    }

    private static boolean restHasNoRing(CounterPlacer x, int r, int counters) {
        int[] part = {0, 1, 2, 0, 0};
        for (int e = 0; e < x.look(r, 1); e++) {
            if ((counters >> e & 1) == 0) {
                int a = part[(int) x.ofEdge(r, e, 0)];
                int b = part[(int) x.ofEdge(r, e, 1)];
                if (a == b) {
                    return false;
                }
                for (int i = 0; i < part.length; i++) {
                    part[i] = part[i] == b ? a : part[i];
                }
            }
        }
        return true;
    }
}
