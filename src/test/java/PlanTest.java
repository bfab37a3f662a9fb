import java.util.Random;

/** Promise 7, with Terms 2: plan. */
public final class PlanTest {
    public static void main(String[] args) {
        endInTheTree();
        orderOfTheTree();
        rings();
        fewest();
        byGuessesOfNow();
        emptied();
        refused();
        Check.end("PlanTest");
    }

    private static void countersAt(String blocks, String edges, long... due) {
        CounterPlacer x = new CounterPlacer();
        int r = Build.finished(x, blocks, edges);
        Check.edgesAre(x, r, 4, due);
        long counters = 0;
        for (long has : due) {
            counters += has;
        }
        Check.due("plan of " + blocks + " / " + edges, x.plan(r), counters);
        Check.edgesAre(x, r, 4, due);
    }

    private static void endInTheTree() {
        Check.sentence(7, "one EDGE from each Leave to END, one from END to BLOCK 0: these are in the TREE", () -> {
            countersAt("G L", "0>1:1000000", 1);
            countersAt("F L L", "0>1:1000000 0>2:1000000", 1, 1);
            countersAt("F G L L", "0>1:9 0>2:1000000 1>3:8", 0, 1, 1);
            // the last block is a Leave as well as the second one
            countersAt("F L G L", "0>1:9 0>2:9 2>3:9", 1, 0, 1);
        });
        Check.sentence(7, "a Stop has no EDGE to END", () -> {
            countersAt("G S", "0>1:0", 0);
            countersAt("F S L", "0>1:3 0>2:3", 0, 1);
            countersAt("F S S", "0>1:3 0>2:3", 0, 0);
        });
        Check.sentence(7, "how many COUNTERS: none of a ROUTINE without EDGES", () -> {
            countersAt("L", "");
            countersAt("S", "");
        });
    }

    private static void orderOfTheTree() {
        Check.sentence(7, "in order of their GUESSES, the greatest first", () -> {
            countersAt("F G L", "0>1:4 0>2:6 1>2:5", 1, 1, 0);
            countersAt("F G L", "0>1:5 0>2:6 1>2:4", 0, 1, 1);
            countersAt("F G L", "0>1:999999 0>2:0 1>2:1000000", 1, 1, 0);
        });
        Check.sentence(7, "of several alike the lesser number", () -> {
            countersAt("F G L", "0>1:3 0>2:9 1>2:3", 0, 1, 1);
            countersAt("F G L", "1>2:3 0>1:3 0>2:9", 0, 1, 1);
            countersAt("F G L", "0>1:0 0>2:0 1>2:0", 0, 1, 1);
            countersAt("F L G", "0>2:1 0>2:1 0>2:1 0>2:1 2>1:1", 0, 1, 1, 1, 1);
            countersAt("F L G", "0>2:1 0>2:1 0>2:2 0>2:2 2>1:2", 1, 1, 0, 1, 1);
        });
        Check.sentence(7, "40 EDGES in order of their GUESSES", () -> {
            CounterPlacer x = new CounterPlacer();
            int r = Build.open(x, Build.many(10, "F", "L"), "");
            for (int e = 0; e < 40; e++) {
                // of each four the third is the greatest; the last four are all alike
                x.edge(r, e / 4, e / 4 + 1, e >= 36 ? 1 : e % 4 == 2 ? 500 + e : e, false);
            }
            x.finish(r);
            for (int e = 0; e < 40; e++) {
                boolean inTree = e % 4 == 2 && e < 36;
                Check.due("edge " + e, Check.ofEdge(x, r, e, 4), inTree ? 0 : 1);
            }
        });
    }

    private static void rings() {
        Check.sentence(7, "each if it closes no ring with those in the TREE", () -> {
            countersAt("F G G L", "0>1:9 0>2:1 1>2:8 2>3:7", 0, 1, 0, 1);
            countersAt("F G L", "0>1:5 0>1:5 1>2:1", 0, 1, 1);
        });
        Check.sentence(7, "(whichever way EDGES are gone)",
                () -> countersAt("F G G L", "0>1:9 0>2:8 1>3:1 2>1:7", 0, 0, 1, 1));
        Check.sentence(7, "an EDGE from a BLOCK to the same is a ring by itself", () -> {
            countersAt("F L", "0>0:1000000* 0>1:0", 1, 1);
            countersAt("F F S", "0>0:1000000* 0>1:0 1>1:1000000* 1>2:0", 1, 0, 1, 0);
        });
        Check.sentence(7, "BACK EDGES may be in the TREE", () -> {
            countersAt("F G L", "0>1:1 0>2:1 1>0:9*", 1, 1, 0);
            countersAt("G L", "0>1:1*", 1);
        });
    }

    private static void fewest() {
        Check.sentence(7, "the fewest EDGES", () -> {
            Random random = new Random(4);
            for (int i = 0; i < 200; i++) {
                CounterPlacer x = new CounterPlacer();
                int r = randomRoutine(x, random);
                // END's three edges and those in the tree join six nodes
                long due = Check.look(x, r, 1) - (5 - 3);
                Check.due("plan", x.plan(r), due);
                Check.due("counters", Check.look(x, r, 3), due);
            }
        });
        Check.sentence(7, "those of the least GUESSES", () -> {
            Random random = new Random(11);
            for (int i = 0; i < 200; i++) {
                CounterPlacer x = new CounterPlacer();
                int r = randomRoutine(x, random);
                Check.due("guesses of counters", Check.look(x, r, 4), leastOf(x, r));
            }
        });
    }

    /** Three Forks and two Leaves. */
    private static int randomRoutine(CounterPlacer x, Random random) {
        int r = Build.open(x, "F F F L L", "2>4:3");
        for (int b = 0; b < 3; b++) {
            for (int k = 0; k < 3; k++) {
                int to = k == 0 ? b + 1 : random.nextInt(5);
                x.edge(r, b, to, random.nextInt(7), to <= b);
            }
        }
        Check.due("finish", x.finish(r), 0);
        return r;
    }

    /** By trying all choices of as many edges. */
    private static long leastOf(CounterPlacer x, int r) {
        int counters = (int) x.look(r, 3);
        int[][] edges = new int[(int) x.look(r, 1)][3];
        for (int e = 0; e < edges.length; e++) {
            for (int what = 0; what < 3; what++) {
                edges[e][what] = (int) x.ofEdge(r, e, what);
            }
        }
        long least = Long.MAX_VALUE;
        for (int set = 0; set < 1 << edges.length; set++) {
            if (Integer.bitCount(set) == counters && restHasNoRing(edges, set)) {
                long sum = 0;
                for (int e = 0; e < edges.length; e++) {
                    sum += (set >> e & 1) != 0 ? edges[e][2] : 0;
                }
                least = Math.min(least, sum);
            }
        }
        return least;
    }

    private static boolean restHasNoRing(int[][] edges, int counters) {
        // END joins block 0 and the Leaves
        int[] part = {0, 1, 2, 0, 0};
        for (int e = 0; e < edges.length; e++) {
            if ((counters >> e & 1) == 0) {
                int a = part[edges[e][0]];
                int b = part[edges[e][1]];
                if (a == b) {
                    return false;
                }
                for (int i = 0; i < part.length; i++) {
                    part[i] = part[i] == b ? a : part[i];
                }
            }
        }
        return true;
    }

    private static void byGuessesOfNow() {
        Check.sentence(7, "its PLAN is made by the GUESSES of now", () -> {
            CounterPlacer x = new CounterPlacer();
            int r = Build.finished(x, Build.DIAMOND, Build.DIAMOND_EDGES);
            Check.edgesAre(x, r, 4, 0, 0, 1, 1);
            x.guess(r, 3, 20);
            Check.due("plan", x.plan(r), 2);
            Check.edgesAre(x, r, 4, 0, 1, 1, 0);
            x.guess(r, 0, 0);
            Check.due("plan", x.plan(r), 2);
            Check.edgesAre(x, r, 4, 1, 1, 0, 0);
        });
        Check.sentence(7, "its LIGHTS are made by the GUESSES of now", () -> {
            CounterPlacer x = new CounterPlacer();
            int r = Build.finished(x, Build.DIAMOND, Build.DIAMOND_EDGES);
            Check.edgesAre(x, r, 9, 0, 0, 0, 1);
            Check.blocksAre(x, r, 6, 0, 0, 1, 0);
            x.guess(r, 3, 20);
            x.plan(r);
            Check.edgesAre(x, r, 9, 0, 1, 0, 0);
            Check.blocksAre(x, r, 6, 0, 0, 0, 0);
        });
        Check.sentence(7, "an EDGE's COUNTER counts if it has one by the PLAN of then", () -> {
            CounterPlacer x = new CounterPlacer();
            int r = Build.finished(x, Build.DIAMOND, Build.DIAMOND_EDGES);
            x.guess(r, 3, 20);
            x.plan(r);
            x.begin(r);
            x.go(9, 1);
            Check.edgesAre(x, r, 6, 0, 1, 0, 1);
            Check.edgesAre(x, r, 7, 0, 1, 0, 0);
            for (int e = 0; e < 4; e++) {
                Check.due("solve", x.solve(r, e), e % 2);
            }
        });
    }

    private static CounterPlacer afterEighteenWays() {
        CounterPlacer x = new CounterPlacer();
        int r = Build.eighteenWays(x);
        for (int i = 0; i < 18; i++) {
            Build.goWay(x, r, i);
        }
        return x;
    }

    private static void emptied() {
        Check.sentence(7, "TRUE counts are 0", () -> {
            CounterPlacer x = afterEighteenWays();
            Check.edgesAre(x, 0, 6, 6, 6, 6, 6, 6, 6, 9, 9);
            Check.due("plan", x.plan(0), 5);
            Check.edgesAre(x, 0, 6, 0, 0, 0, 0, 0, 0, 0, 0);
        });
        Check.sentence(7, "COUNTERS are 0", () -> {
            CounterPlacer x = afterEighteenWays();
            Check.edgesAre(x, 0, 7, 0, 6, 6, 0, 6, 6, 9, 0);
            x.plan(0);
            Check.edgesAre(x, 0, 7, 0, 0, 0, 0, 0, 0, 0, 0);
            Check.due("solve", x.solve(0, 0), 0);
        });
        Check.sentence(7, "ENTRIES are 0", () -> {
            CounterPlacer x = afterEighteenWays();
            Check.due("entries", Check.look(x, 0, 6), 18);
            x.plan(0);
            Check.due("entries", Check.look(x, 0, 6), 0);
        });
        Check.sentence(7, "STOPPED are 0", () -> {
            CounterPlacer x = afterEighteenWays();
            for (int steps = 1; steps <= 3; steps++) {
                x.begin(0);
                x.go(steps, 0);
            }
            x.begin(0);
            x.begin(0);
            x.go(9, 0);
            Check.blocksAre(x, 0, 7, 1, 1, 1, 1, 9);
            Check.due("in all", Check.look(x, 0, 9), 13);
            x.plan(0);
            Check.blocksAre(x, 0, 7, 0, 0, 0, 0, 0);
            Check.due("in all", Check.look(x, 0, 9), 0);
        });
        Check.sentence(7, "TABLE is empty", () -> {
            CounterPlacer x = afterEighteenWays();
            Check.due("rows", Check.look(x, 0, 8), 16);
            Check.due("fell out", Check.look(x, 0, 7), 2);
            x.plan(0);
            Check.due("rows", Check.look(x, 0, 8), 0);
            Check.due("fell out", Check.look(x, 0, 7), 0);
            Check.due("row 0", x.table(0, 0, 0), -1);
            Check.due("told", x.told(0, 0), 0);
            Build.goWay(x, 0, 17);
            Check.due("a way that had fallen out", x.table(0, 0, 0), 17);
            Check.due("how often", x.table(0, 0, 1), 1);
        });
        Check.sentence(7, "of a ROUTINE: others keep what they have", () -> {
            CounterPlacer x = afterEighteenWays();
            x.plan(Build.finished(x, "L", ""));
            Check.due("entries", Check.look(x, 0, 6), 18);
            Check.due("rows", Check.look(x, 0, 8), 16);
            Check.runIs(x, 3, 0, 4, -1, -1, 2);
        });
    }

    private static void refused() {
        Check.sentence(7, "NONE: no such ROUTINE", () -> {
            CounterPlacer x = new CounterPlacer();
            Build.finished(x, "L", "");
            for (int none : Check.outside(1)) {
                Check.due("plan(" + none + ")", x.plan(none), -1);
            }
        });
        Check.sentence(7, "NONE: it isn't FINISHED", () -> {
            CounterPlacer x = new CounterPlacer();
            int r = Build.open(x, "G L", "0>1:1");
            Check.due("plan", x.plan(r), -1);
            Check.due("finish of one that isn't good", x.finish(Build.open(x, "G", "")), 2);
            Check.due("plan", x.plan(1), -1);
        });
        Check.sentence(7, "NONE: a run has a FRAME of it", PlanTest::framesRefuse);
        Check.sentence(7, "a run that is ENDED has none", () -> {
            for (String end : new String[] {"L", "S", "C7 L"}) {
                CounterPlacer x = new CounterPlacer();
                int r = Build.finished(x, end, end.length() > 1 ? "0>1:1" : "");
                x.begin(r);
                x.go(1, 0);
                Check.due("plan", x.plan(r), end.length() > 1 ? 1 : 0);
                Check.due("entries", Check.look(x, r, 6), 0);
            }
        });
        Check.sentence(7, "a run that was replaced has none", () -> {
            CounterPlacer x = new CounterPlacer();
            int first = Build.finished(x, "G L", "0>1:1");
            int second = Build.finished(x, "G L", "0>1:1");
            x.begin(first);
            x.begin(second);
            Check.due("plan of the first", x.plan(first), 1);
            Check.due("plan of the second", x.plan(second), -1);
        });
    }

    private static void framesRefuse() {
        CounterPlacer x = new CounterPlacer();
        int called = Build.finished(x, "G L", "0>1:1");
        int caller = Build.finished(x, "G C0 L", "0>1:5 1>2:6");
        x.guess(caller, 0, 7);
        x.begin(caller);
        Check.due("plan of the one that began", x.plan(caller), -1);
        x.go(1, 0);
        Check.due("plan of one that has no frame", x.plan(called), 1);
        x.go(1, 0);
        Check.due("plan of the top frame's", x.plan(called), -1);
        Check.due("plan of the one below", x.plan(caller), -1);
        Check.due("it keeps its counts", Check.look(x, caller, 6), 1);
        Check.edgesAre(x, caller, 4, 1, 0);
        x.go(2, 0);
        Check.due("plan of the called, gone by now", x.plan(called), 1);
        Check.due("plan of the caller", x.plan(caller), -1);
        x.go(1, 0);
        Check.due("plan of the caller when it is gone, too", x.plan(caller), 1);
        Check.edgesAre(x, caller, 4, 0, 1);
    }
}
