import java.util.Random;

/** Promises 20 and 21: blur, mend. */
public final class MendTest {
    private static final int MIN = Integer.MIN_VALUE;
    private static final int MAX = Integer.MAX_VALUE;

    public static void main(String[] args) {
        blurring();
        mending();
        mendingAtStops();
        againstAllChoices();
        largeCounts();
        largestRoutines();
        Check.end("MendTest");
    }

    private static void blurring() {
        CounterPlacer x = new CounterPlacer();
        Check.due("blur of no routine", x.blur(0, 0, 0), false);
        int r = Build.open(x, "G L", "0>1:1");
        Check.due("blur of one not finished", x.blur(r, 0, 3), true);
        for (int none : new int[] {-1, 1, 40, MIN, MAX}) {
            Check.due("no such edge", x.blur(r, none, 0), false);
            Check.due("no such routine", x.blur(none, 0, 0), false);
        }
        for (int v : new int[] {-1, 1000001, MIN, MAX}) {
            Check.due("no such count", x.blur(r, 0, v), false);
        }
        Check.due("0", x.blur(r, 0, 0), true);
        Check.due("1000000", x.blur(r, 0, 1000000), true);
    }

    private static long mended(String blocks, String edges, int... counts) {
        CounterPlacer x = new CounterPlacer();
        int r = Build.finished(x, blocks, edges);
        Check.due("at first", x.mend(r), 0);
        for (int e = 0; e < counts.length; e++) {
            x.blur(r, e, counts[e]);
        }
        return x.mend(r);
    }

    private static void mending() {
        CounterPlacer x = new CounterPlacer();
        Check.due("mend of no routine", x.mend(0), -1);
        int r = Build.open(x, "G L", "0>1:1");
        Check.due("mend of one not finished", x.mend(r), -1);
        x.finish(r);
        for (int none : new int[] {-1, 1, 8, MIN, MAX}) {
            Check.due("no such routine", x.mend(none), -1);
        }
        Check.due("END's edges take any count", mended("G L", "0>1:1", 1000000), 0);
        Check.due("one is wrong", mended("G G G L", "0>1:1 1>2:1 2>3:1", 5, 5, 9), 4);
        Check.due("the middle of three", mended("G G G L", "0>1:1 1>2:1 2>3:1", 7, 5, 4), 3);
        Check.due("a sum is wrong", mended("F G G G L", "0>1:1 0>2:1 1>3:1 2>3:1 3>4:1", 4, 4, 4, 4, 10), 2);
        Check.due("a loop may have any count", mended("F L", "0>0:1* 0>1:1", 1000000, 0), 0);
        Check.due("a loop of two", mended("F G L", "0>1:1 0>2:1 1>0:1*", 9, 1, 5), 4);
        Check.due("a loop that nothing enters", mended("F F G L", "0>1:1 0>3:1 1>2:1 1>3:1 2>1:1*", 0, 0, 5, 0, 5), 0);
        Check.due("a routine without edges", mended("L", ""), 0);
        mendingChangesNothing();
    }

    private static void mendingChangesNothing() {
        CounterPlacer x = new CounterPlacer();
        int r = Build.finished(x, "G G L", "0>1:1 1>2:1");
        x.blur(r, 0, 8);
        Check.due("mend", x.mend(r), 8);
        Check.due("mend again", x.mend(r), 8);
        x.begin(r);
        x.go(9, 0);
        Check.due("runs don't blur", x.mend(r), 8);
        x.plan(r);
        Check.due("nor do plans", x.mend(r), 8);
        Check.due("true", Check.ofEdge(x, r, 0, 6), 0);
        x.blur(r, 1, 6);
        Check.due("mend", x.mend(r), 2);
        Check.due("of another", x.mend(Build.finished(x, "G G L", "0>1:1 1>2:1")), 0);
        Check.due("mend", x.mend(r), 2);
    }

    /** END has no edge from a Stop, so what goes into one must be nothing. */
    private static void mendingAtStops() {
        Check.due("into a Stop", mended("G S", "0>1:1", 7), 7);
        Check.due("by way of a block", mended("G G S", "0>1:1 1>2:1", 7, 3), 10);
        Check.due("beside a Leave", mended("F S L", "0>1:1 0>2:1", 7, 3), 7);
        Check.due("a loop ahead of a Stop", mended("F S", "0>0:1* 0>1:1", 4, 6), 6);
    }

    private static void againstAllChoices() {
        Random random = new Random(8);
        for (int i = 0; i < 400; i++) {
            CounterPlacer x = new CounterPlacer();
            int r = Build.open(x, "F F " + "GF".charAt(i % 2) + " L", "");
            int[] from = {0, 0, 1, 1, 2, 2};
            int[] counts = new int[5 + i % 2];
            for (int e = 0; e < counts.length; e++) {
                int to = e % 2 == 0 ? from[e] + 1 : random.nextInt(4);
                x.edge(r, from[e], to, 0, to <= from[e]);
                counts[e] = random.nextInt(3);
                x.blur(r, e, counts[e]);
            }
            Check.due("finish", x.finish(r), 0);
            Check.due("mend", x.mend(r), leastOf(x, r, counts));
        }
    }

    /** By trying all counts of 0 .. 4 on each edge. */
    private static long leastOf(CounterPlacer x, int r, int[] counts) {
        long least = Long.MAX_VALUE;
        int[] tried = new int[counts.length];
        for (int n = 0; n < Math.pow(5, counts.length); n++) {
            long sum = 0;
            int rest = n;
            for (int e = 0; e < counts.length; e++) {
                tried[e] = rest % 5;
                rest /= 5;
                sum += Math.abs(tried[e] - counts[e]);
            }
            if (sum < least && isEven(x, r, tried)) {
                least = sum;
            }
        }
        return least;
    }

    private static boolean isEven(CounterPlacer x, int r, int[] tried) {
        long[] more = new long[4];
        for (int e = 0; e < tried.length; e++) {
            more[(int) x.ofEdge(r, e, 0)] -= tried[e];
            more[(int) x.ofEdge(r, e, 1)] += tried[e];
        }
        // END gives to block 0 what the Leave, block 3, has
        return more[0] <= 0 && more[1] == 0 && more[2] == 0 && more[3] >= 0;
    }

    /** A thousand times the counts need a thousand times the change. */
    private static void largeCounts() {
        Random random = new Random(9);
        for (int i = 0; i < 200; i++) {
            CounterPlacer x = new CounterPlacer();
            int r = Build.open(x, "F F F F F F F F L S", "");
            for (int b = 0; b < 8; b++) {
                x.edge(r, b, b + 1, 0, false);
                for (int k = 0; k < 2; k++) {
                    int to = random.nextInt(9);
                    x.edge(r, b, to, 0, to <= b);
                }
            }
            x.edge(r, 3, 9, 0, false);
            Check.due("finish", x.finish(r), 0);
            int[] counts = new int[25];
            for (int e = 0; e < 25; e++) {
                counts[e] = random.nextInt(1001);
                x.blur(r, e, counts[e]);
            }
            long once = x.mend(r);
            for (int e = 0; e < 25; e++) {
                x.blur(r, e, counts[e] * 1000);
            }
            Check.due("mend", x.mend(r), once * 1000);
        }
    }

    private static void largestRoutines() {
        Random random = new Random(10);
        for (int i = 0; i < 100; i++) {
            CounterPlacer x = new CounterPlacer();
            Model m = new Model();
            x.routine();
            m.routine();
            for (int b = 0; b < 20; b++) {
                int kind = b >= 18 ? 3 + i % 2 * (b - 18) : 1;
                x.block(0, kind, 0);
                m.block(0, kind, 0);
            }
            for (int e = 0; e < 40; e++) {
                int from = e % 18;
                // each edge is a back one, or leads one on: so the model has few ways to lay out
                boolean back = e >= 18;
                int to = e < 18 ? e + 1 : e < 20 ? e : random.nextInt(20);
                x.edge(0, from, to, 0, back);
                m.edge(0, from, to, 0, back);
                int v = random.nextInt(3) == 0 ? 0 : random.nextInt(1000001);
                x.blur(0, e, v);
                m.blur(0, e, v);
            }
            Check.due("finish", x.finish(0), 0);
            Check.due("finish of the model", m.finish(0), 0);
            Check.due("mend", x.mend(0), m.mend(0));
        }
    }
}
