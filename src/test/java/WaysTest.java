import java.util.Random;

/** Promises 16 to 19: way, along, table, told; and the numbers behind them (N, ADD, BASE, LIGHT, P). */
public final class WaysTest {
    private static final int MIN = Integer.MIN_VALUE;
    private static final int MAX = Integer.MAX_VALUE;

    public static void main(String[] args) {
        laidOut();
        heads();
        wrongWays();
        lights();
        lightSums();
        tables();
        tooSmall();
        told();
        Check.end("WaysTest");
    }

    private static void wayIs(CounterPlacer x, int r, long n, int[] blocks, int[] edges) {
        for (int k = 0; k < blocks.length; k++) {
            Check.due("way(" + n + ", " + k + ")", x.way(r, n, k), blocks[k]);
        }
        Check.due("behind way " + n, x.way(r, n, blocks.length), -1);
        for (int k = 0; k < edges.length; k++) {
            Check.due("along(" + n + ", " + k + ")", x.along(r, n, k), edges[k]);
        }
        Check.due("behind along " + n, x.along(r, n, edges.length), -1);
    }

    private static void laidOut() {
        CounterPlacer x = new CounterPlacer();
        // two edges side by side, a Stop, and edges that didn't come block by block
        int r = Build.finished(x, "F F L S", "1>2:1 0>1:1 1>3:1 0>1:1 0>2:1");
        Check.due("ways", Check.look(x, r, 5), 5);
        Check.due("N", Check.ofBlock(x, r, 0, 4), 5);
        long[] adds = {0, 0, 1, 2, 4};
        for (int e = 0; e < 5; e++) {
            Check.due("add", Check.ofEdge(x, r, e, 8), adds[e]);
        }
        wayIs(x, r, 0, new int[] {0, 1, 2}, new int[] {1, 0});
        wayIs(x, r, 1, new int[] {0, 1, 3}, new int[] {1, 2});
        wayIs(x, r, 2, new int[] {0, 1, 2}, new int[] {3, 0});
        wayIs(x, r, 3, new int[] {0, 1, 3}, new int[] {3, 2});
        wayIs(x, r, 4, new int[] {0, 2}, new int[] {4});
        int one = Build.finished(x, "L", "");
        wayIs(x, one, 0, new int[] {0}, new int[] {});
        Check.due("ways of a Leave", Check.look(x, one, 5), 1);
    }

    private static void heads() {
        CounterPlacer x = new CounterPlacer();
        int r = Build.finished(x, "F F L", "0>1:1 0>0:1* 1>1:1* 1>2:1 1>0:1*");
        // N(1) is 3, N(0) is 4; block 0 as a head has 4 .. 7, block 1 has 8 .. 10
        Check.due("ways", Check.look(x, r, 5), 11);
        Check.due("base of 0 as a head", Check.ofBlock(x, r, 0, 5), 4);
        Check.due("base of 1", Check.ofBlock(x, r, 1, 5), 8);
        Check.due("base of 2", Check.ofBlock(x, r, 2, 5), -1);
        Check.due("add of a back one", Check.ofEdge(x, r, 1, 8), 3);
        Check.due("add of a back one", Check.ofEdge(x, r, 4, 8), 2);
        wayIs(x, r, 0, new int[] {0, 1}, new int[] {0, 2});
        wayIs(x, r, 3, new int[] {0}, new int[] {1});
        wayIs(x, r, 5, new int[] {0, 1, 2}, new int[] {0, 3});
        wayIs(x, r, 7, new int[] {0}, new int[] {1});
        wayIs(x, r, 8, new int[] {1}, new int[] {2});
        wayIs(x, r, 10, new int[] {1}, new int[] {4});
        // a head that only a back edge reaches
        int far = Build.finished(x, "F L G", "0>1:0 0>2:0* 2>1:0");
        Check.due("ways", Check.look(x, far, 5), 3);
        wayIs(x, far, 2, new int[] {2, 1}, new int[] {2});
    }

    private static void wrongWays() {
        CounterPlacer x = new CounterPlacer();
        int r = Build.open(x, "F L L", "0>1:1 0>2:1");
        Check.due("way of one not finished", x.way(r, 0, 0), -1);
        Check.due("along of one not finished", x.along(r, 0, 0), -1);
        x.finish(r);
        for (long n : new long[] {-1, 2, 1L << 32, Long.MIN_VALUE, Long.MAX_VALUE}) {
            Check.due("no such way", x.way(r, n, 0), -1);
            Check.due("no such way", x.along(r, n, 0), -1);
        }
        for (int k : new int[] {-1, 2, 20, 40, MIN, MAX}) {
            Check.due("no such k", x.way(r, 1, k), -1);
            Check.due("no such k", x.along(r, 1, k), -1);
        }
        for (int none : new int[] {-1, 1, 8, MIN, MAX}) {
            Check.due("no such routine", x.way(none, 0, 0), -1);
            Check.due("no such routine", x.along(none, 0, 0), -1);
        }
    }

    private static void lights() {
        CounterPlacer x = new CounterPlacer();
        int r = Build.finished(x, "F F L L", "0>2:1 0>1:9 1>3:9 1>2:9 0>3:0*");
        // the tree: 0>1 (add 1), 1>3 (add 0), 1>2 (add 1)
        long[] potentials = {0, 1, 2, 1};
        long[] lights = {-2, 0, 0, 0, 0};
        for (int b = 0; b < 4; b++) {
            Check.due("P", Check.ofBlock(x, r, b, 6), potentials[b]);
        }
        for (int e = 0; e < 5; e++) {
            Check.due("light", Check.ofEdge(x, r, e, 9), lights[e]);
        }
        // two trees: block 1 is the least of the second one, though an edge leads to it
        int two = Build.finished(x, "F F F L L", "0>4:1 0>2:1* 2>1:3 2>1:1 1>3:1 1>3:2");
        potentials = new long[] {0, 0, 0, 1, 0};
        lights = new long[] {0, 0, 0, 2, -1, 0};
        for (int b = 0; b < 5; b++) {
            Check.due("P", Check.ofBlock(x, two, b, 6), potentials[b]);
        }
        for (int e = 0; e < 6; e++) {
            Check.due("light", Check.ofEdge(x, two, e, 9), lights[e]);
        }
        int turned = Build.finished(x, "F L F L", "0>1:1 0>2:1* 2>3:1 2>1:3");
        Check.due("against the edge P is less", Check.ofBlock(x, turned, 2, 6), -1);
        Check.due("along it, more", Check.ofBlock(x, turned, 3, 6), -1);
    }

    /** A way's number is its base less P of its beginning, its lights, P of its end and a back edge's add. */
    private static void lightSums() {
        Random random = new Random(3);
        for (int i = 0; i < 300; i++) {
            CounterPlacer x = new CounterPlacer();
            int r = Build.open(x, "F F F F F L", "");
            for (int b = 0; b < 5; b++) {
                x.edge(r, b, b + 1, random.nextInt(9), false);
                for (int k = 0; k < 2; k++) {
                    int to = random.nextInt(6);
                    x.edge(r, b, to, random.nextInt(9), to <= b || random.nextInt(9) == 0);
                }
            }
            Check.due("finish", x.finish(r), 0);
            for (long n = 0; n < x.look(r, 5); n += 1 + random.nextInt(20)) {
                Check.due("sum of lights", lightSum(x, r, n), n);
            }
        }
    }

    private static long lightSum(CounterPlacer x, int r, long n) {
        int begins = x.way(r, n, 0);
        long sum = (n < x.ofBlock(r, 0, 4) ? 0 : x.ofBlock(r, begins, 5)) - x.ofBlock(r, begins, 6);
        int k = 0;
        for (; x.way(r, n, k + 1) != -1; k++) {
            sum += x.ofEdge(r, x.along(r, n, k), 9);
        }
        int last = x.along(r, n, k);
        return sum + x.ofBlock(r, x.way(r, n, k), 6) + (last == -1 ? 0 : x.ofEdge(r, last, 8));
    }

    private static void tables() {
        CounterPlacer x = new CounterPlacer();
        int r = Build.open(x, "F L L", "0>1:1 0>2:1");
        Check.due("table of one not finished", x.table(r, 0, 0), -1);
        x.finish(r);
        Check.due("empty", x.table(r, 0, 0), -1);
        for (int choice : new int[] {1, 0, 1}) {
            x.begin(r);
            x.go(9, choice);
        }
        Check.due("first way", x.table(r, 0, 0), 1);
        Check.due("how often", x.table(r, 0, 1), 2);
        Check.due("second way", x.table(r, 1, 0), 0);
        Check.due("how often", x.table(r, 1, 1), 1);
        x.begin(r);
        x.go(1, 0);
        Check.due("it ends as the frame goes", x.table(r, 1, 1), 1);
        for (int none : new int[] {-1, 2, 16, MIN, MAX}) {
            Check.due("no such row", x.table(r, none, 0), -1);
            Check.due("no such what", x.table(r, 0, none), -1);
            Check.due("no such routine", x.table(none, 0, 0), -1);
        }
    }

    private static void tooSmall() {
        CounterPlacer x = new CounterPlacer();
        int r = Build.finished(x, "F F F L", "0>1:1 0>1:1 0>1:1 1>2:1 1>2:1 1>2:1 2>3:1 2>3:1");
        for (int i = 17; i >= 0; i--) {
            x.begin(r);
            x.go(9, i / 6 | i / 2 % 3 << 2 | i % 2 << 4);
        }
        Check.due("rows", Check.look(x, r, 8), 16);
        Check.due("fell out", Check.look(x, r, 7), 2);
        for (int k = 0; k < 16; k++) {
            Check.due("row", x.table(r, k, 0), 17 - k);
        }
        Check.due("row 16", x.table(r, 16, 0), -1);
        for (int i = 0; i < 3; i++) {
            x.begin(r);
            x.go(9, 0);
        }
        Check.due("each time one more", Check.look(x, r, 7), 5);
        x.begin(r);
        x.go(9, 2 | 2 << 2 | 1 << 4);
        Check.due("one that is in the table still counts", x.table(r, 0, 1), 2);
        Check.due("told lacks what fell out", x.told(r, 0), 4);
        Check.due("true", Check.ofEdge(x, r, 0, 6), 9);
    }

    private static void told() {
        CounterPlacer x = new CounterPlacer();
        int r = Build.open(x, "F G L", "0>1:1 0>2:1 1>0:1*");
        Check.due("told of one not finished", x.told(r, 0), -1);
        x.finish(r);
        x.begin(r);
        x.go(5, 0);
        Check.due("told", x.told(r, 0), 2);
        Check.due("a way that didn't end isn't told", Check.ofEdge(x, r, 0, 6), 3);
        Check.due("told of the back one", x.told(r, 2), 2);
        Check.due("told of none", x.told(r, 1), 0);
        for (int none : new int[] {-1, 3, 40, MIN, MAX}) {
            Check.due("no such edge", x.told(r, none), -1);
            Check.due("no such routine", x.told(none, 0), -1);
        }
    }
}
