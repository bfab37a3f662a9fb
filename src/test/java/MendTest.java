import java.util.Random;

/** Promises 20 and 21: blur, mend. */
public final class MendTest {
    private static final int MOST = 1000000;

    public static void main(String[] args) {
        blur();
        mend();
        mendAtEnds();
        mendTheLeast();
        mendRefused();
        Check.end("MendTest");
    }

    private static void blur() {
        Check.sentence(20, "a count for mend() of an EDGE is v, 0 .. 1000000: true", () -> {
            CounterPlacer x = new CounterPlacer();
            int r = Build.finished(x, "G G L", "0>1:1 1>2:1");
            for (int v : new int[] {MOST, 0, 1, MOST - 1}) {
                Check.due("blur " + v, x.blur(r, 0, v), true);
                Check.due("mend", x.mend(r), v);
            }
            Check.due("of the last", x.blur(r, 1, MOST), true);
            Check.due("mend", x.mend(r), 1);
        });
        Check.sentence(20, "a count of an EDGE, whether its ROUTINE is FINISHED or not", () -> {
            CounterPlacer x = new CounterPlacer();
            int r = Build.open(x, "G G L", "0>1:1 1>2:1");
            Check.due("blur", x.blur(r, 0, 3), true);
            x.finish(r);
            Check.due("mend", x.mend(r), 3);
        });
        Check.sentence(20, "false for others: no such v", () -> {
            CounterPlacer x = new CounterPlacer();
            int r = Build.finished(x, "G G L", "0>1:1 1>2:1");
            x.blur(r, 0, 5);
            for (int v : Check.outside(MOST + 1)) {
                Check.due("blur " + v, x.blur(r, 0, v), false);
            }
            Check.due("it is what it was", x.mend(r), 5);
        });
        Check.sentence(20, "false for others: no such EDGE", () -> {
            CounterPlacer x = new CounterPlacer();
            int r = Build.finished(x, "G G L", "0>1:1 1>2:1");
            for (int none : Check.outside(2)) {
                Check.due("blur of edge " + none, x.blur(r, none, 5), false);
            }
            for (int none : Check.outside(1)) {
                Check.due("blur of routine " + none, x.blur(none, 0, 5), false);
            }
            Check.due("all are what they were", x.mend(r), 0);
        });
        Check.sentence(20, "it is 0 at first", () -> {
            CounterPlacer x = new CounterPlacer();
            int r = Build.open(x, "G G L", "0>1:1");
            // no count from an edge that was refused
            Check.due("blur of an edge to come", x.blur(r, 1, 9), false);
            x.edge(r, 1, 2, 1, false);
            x.finish(r);
            Check.due("mend", x.mend(r), 0);
            x.begin(r);
            x.go(9, 0);
            Check.due("what runs is no count of it", x.mend(r), 0);
        });
    }

    private static long mended(String blocks, String edges, int... counts) {
        CounterPlacer x = new CounterPlacer();
        int r = Build.finished(x, blocks, edges);
        for (int e = 0; e < counts.length; e++) {
            x.blur(r, e, counts[e]);
        }
        return x.mend(r);
    }

    /** Of Gos one behind another, and a Leave, with the count of each edge as it is passed. */
    private static long mendedChain(boolean lastFirst, int... counts) {
        int n = counts.length;
        CounterPlacer x = new CounterPlacer();
        int r = Build.open(x, Build.many(n, "G", "L"), "");
        for (int e = 0; e < n; e++) {
            int b = lastFirst ? n - 1 - e : e;
            x.edge(r, b, b + 1, 1, false);
            x.blur(r, e, counts[b]);
        }
        Check.due("finish", x.finish(r), 0);
        return x.mend(r);
    }

    private static void mend() {
        Check.sentence(21, "counts that are right already", () -> {
            Check.due("of none", mended("F G L", "0>1:1 0>2:1 1>2:1"), 0);
            Check.due("of a run", mended("F G L", "0>1:1 0>2:1 1>2:1", 3, 4, 3), 0);
            Check.due("a ROUTINE without EDGES", mended("L", ""), 0);
        });
        Check.sentence(21, "the least sum of sizes of changes", () -> {
            Check.due("one is too much", mended("G G G L", "0>1:1 1>2:1 2>3:1", 5, 5, 9), 4);
            Check.due("one is too little", mended("G G G L", "0>1:1 1>2:1 2>3:1", 5, 2, 5), 3);
            Check.due("the middle of three", mended("G G G L", "0>1:1 1>2:1 2>3:1", 7, 5, 4), 3);
            Check.due("a sum", mended("F G G G L", "0>1:1 0>2:1 1>3:1 2>3:1 3>4:1", 4, 4, 4, 4, 10), 2);
            Check.due("one is cheaper than two", mended("F G G G L", "0>1:1 0>2:1 1>3:1 2>3:1 3>4:1", 4, 4, 4, 4, 0), 8);
        });
        Check.sentence(21, "the least, in a chain: all of it or none, whichever way its EDGES came", () -> {
            for (boolean lastFirst : new boolean[] {false, true}) {
                Check.due("three, a gap of five, three", mendedChain(lastFirst, 5, 5, 5, 0, 0, 0, 0, 0, 5, 5, 5), 25);
                Check.due("two, a gap of five, two", mendedChain(lastFirst, 5, 5, 0, 0, 0, 0, 0, 5, 5), 20);
                Check.due("19 of 0 and of 7",
                        mendedChain(lastFirst, 7, 0, 7, 0, 7, 0, 7, 0, 7, 0, 7, 0, 7, 0, 7, 0, 7, 0, 7), 63);
            }
        });
        Check.sentence(21, "become such, 0 and more", () -> {
            // with 5 less than 0 on edge 1, beside the chain of 0>1>2>3, it would be 5
            Check.due("a chain of 5 into one of 0",
                    mended("F G G G G G L", "0>1:1 0>3:1 1>2:1 2>3:1 3>4:1 4>5:1 5>6:1", 5, 0, 5, 5, 0, 0, 0), 15);
            // edge 1 can give 2 of them
            Check.due("a chain of 5 into one of 2",
                    mended("F G G G G G L", "0>1:1 0>3:1 1>2:1 2>3:1 3>4:1 4>5:1 5>6:1", 5, 2, 5, 5, 2, 2, 2), 11);
        });
        Check.sentence(21, "as go into each BLOCK as out of it: a ring of its own", () -> {
            Check.due("of one", mended("F L", "0>0:1* 0>1:1", MOST, 0), 0);
            Check.due("of two", mended("F G L", "0>1:1 0>2:1 1>0:1*", 9, 1, 5), 4);
            Check.due("back into block 0", mended("G F L", "0>1:1 1>0:1* 1>2:1", 0, 6, 0), 6);
            Check.due("that nothing enters", mended("F F G L", "0>1:1 0>3:1 1>2:1 1>3:1 2>1:1*", 0, 0, 5, 0, 5), 0);
        });
        Check.sentence(21, "its EDGES' counts (those of blur()): mend, runs and plans leave them", () -> {
            CounterPlacer x = new CounterPlacer();
            int r = Build.finished(x, "G G L", "0>1:1 1>2:1");
            x.blur(r, 0, 8);
            Check.due("mend", x.mend(r), 8);
            Check.due("mend again", x.mend(r), 8);
            x.begin(r);
            x.go(9, 0);
            Check.due("behind a run", x.mend(r), 8);
            Check.edgesAre(x, r, 6, 1, 1);
            x.plan(r);
            Check.due("behind a plan", x.mend(r), 8);
            x.blur(r, 1, 6);
            Check.due("behind a blur", x.mend(r), 2);
            Check.due("of another", x.mend(Build.finished(x, "G G L", "0>1:1 1>2:1")), 0);
            Check.due("of this one still", x.mend(r), 2);
        });
    }

    private static void mendAtEnds() {
        Check.sentence(21, "with END's EDGES any counts of 0 and more", () -> {
            Check.due("one Leave", mended("G L", "0>1:1", MOST), 0);
            Check.due("several", mended("F L L L L", "0>1:1 0>2:1 0>3:1 0>4:1", MOST, 0, 7, MOST), 0);
        });
        Check.sentence(21, "END has no EDGE from a Stop: what goes into one must be 0", () -> {
            Check.due("into a Stop", mended("G S", "0>1:1", 7), 7);
            Check.due("by way of a block", mended("G G S", "0>1:1 1>2:1", 7, 3), 10);
            Check.due("beside a Leave", mended("F S L", "0>1:1 0>2:1", 7, 3), 7);
            Check.due("a ring ahead of it", mended("F S", "0>0:1* 0>1:1", 4, 6), 6);
        });
    }

    private static void mendTheLeast() {
        Check.sentence(21, "the least of all that there are", MendTest::againstAllChoices);
        Check.sentence(21, "a thousand times the counts need a thousand times the change", MendTest::largeCounts);
        Check.sentence(21, "the largest sums", () -> {
            CounterPlacer x = new CounterPlacer();
            // each Fork's four edges go into the Stop, so all counts must become 0
            StringBuilder edges = new StringBuilder();
            for (int b = 0; b < 10; b++) {
                edges.append(b).append('>').append(Math.min(b + 1, 9)).append(b == 9 ? ":0* " : ":0 ");
                edges.append((b + ">10:0 ").repeat(3));
            }
            int r = Build.finished(x, Build.many(10, "F", "S"), edges.toString());
            for (int e = 0; e < 40; e++) {
                x.blur(r, e, MOST);
            }
            // but for the ring from block 9 to itself
            Check.due("mend", x.mend(r), 39L * MOST);
        });
        Check.sentence(21, "the largest ROUTINES, as another way of mending has it", MendTest::largestRoutines);
    }

    private static void againstAllChoices() {
        Random random = new Random(8);
        for (int i = 0; i < 400; i++) {
            CounterPlacer x = new CounterPlacer();
            int r = Build.open(x, "F F " + "GF".charAt(i % 2) + " L", "");
            int[] from = {0, 0, 1, 1, 2, 2};
            int[] to = new int[5 + i % 2];
            int[] counts = new int[to.length];
            for (int e = 0; e < counts.length; e++) {
                to[e] = e % 2 == 0 ? from[e] + 1 : random.nextInt(4);
                x.edge(r, from[e], to[e], 0, to[e] <= from[e]);
                counts[e] = random.nextInt(3);
                x.blur(r, e, counts[e]);
            }
            Check.due("finish", x.finish(r), 0);
            Check.due("mend", x.mend(r), leastOf(from, to, counts));
        }
    }

    /** By trying all counts of 0 .. 4 on each edge. */
    private static long leastOf(int[] from, int[] to, int[] counts) {
        long least = Long.MAX_VALUE;
        int[] tried = new int[counts.length];
        for (int n = 0; n < Math.pow(5, counts.length); n++) {
            long sum = 0;
            int rest = n;
            for (int e = 0; e < counts.length; e++) {
                tried[e] = rest % 5;
                rest /= 5;
                sum += Math.abs(tried[e] - counts[e]);
            }
            if (sum < least && isEven(from, to, tried)) {
                least = sum;
            }
        }
        return least;
    }

    private static boolean isEven(int[] from, int[] to, int[] tried) {
        long[] more = new long[4];
        for (int e = 0; e < tried.length; e++) {
            more[from[e]] -= tried[e];
            more[to[e]] += tried[e];
        }
        // END gives to block 0 what the Leave, block 3, has
        return more[0] <= 0 && more[1] == 0 && more[2] == 0 && more[3] >= 0;
    }

    private static void largeCounts() {
        Random random = new Random(9);
        for (int i = 0; i < 200; i++) {
            CounterPlacer x = new CounterPlacer();
            int r = Build.open(x, "F F F F F F F F L S", "");
            for (int b = 0; b < 8; b++) {
                x.edge(r, b, b + 1, 0, false);
                for (int k = 0; k < 2; k++) {
                    int to = random.nextInt(9);
                    x.edge(r, b, to, 0, to <= b);
                }
            }
            x.edge(r, 3, 9, 0, false);
            Check.due("finish", x.finish(r), 0);
            int[] counts = new int[25];
            for (int e = 0; e < 25; e++) {
                counts[e] = random.nextInt(1001);
                x.blur(r, e, counts[e]);
            }
            long once = x.mend(r);
            for (int e = 0; e < 25; e++) {
                x.blur(r, e, counts[e] * 1000);
            }
            Check.due("mend", x.mend(r), once * 1000);
        }
    }

    private static void largestRoutines() {
        Random random = new Random(10);
        for (int i = 0; i < 100; i++) {
            CounterPlacer x = new CounterPlacer();
            Model m = new Model();
            x.routine();
            m.routine();
            for (int b = 0; b < 20; b++) {
                int kind = b >= 18 ? 3 + i % 2 * (b - 18) : 1;
                x.block(0, kind, 0);
                m.block(0, kind, 0);
            }
            for (int e = 0; e < 40; e++) {
                int from = e % 18;
                // each edge is a back one, or leads one on: so the model has few ways to lay out
                boolean back = e >= 18;
                int to = e < 18 ? e + 1 : e < 20 ? e : random.nextInt(20);
                x.edge(0, from, to, 0, back);
                m.edge(0, from, to, 0, back);
                int v = random.nextInt(3) == 0 ? 0 : random.nextInt(MOST + 1);
                x.blur(0, e, v);
                m.blur(0, e, v);
            }
            Check.due("finish", x.finish(0), 0);
            Check.due("finish of the model", m.finish(0), 0);
            Check.due("mend", x.mend(0), m.mend(0));
        }
    }

    private static void mendRefused() {
        Check.sentence(21, "NONE: no such ROUTINE", () -> {
            CounterPlacer x = new CounterPlacer();
            Build.finished(x, "G L", "0>1:1");
            for (int none : Check.outside(1)) {
                Check.due("mend(" + none + ")", x.mend(none), -1);
            }
        });
        Check.sentence(21, "NONE: it isn't FINISHED", () -> {
            CounterPlacer x = new CounterPlacer();
            int r = Build.open(x, "G L", "0>1:1");
            x.blur(r, 0, 5);
            Check.due("mend", x.mend(r), -1);
            int ring = Build.open(x, "F L", "0>0:1 0>1:1");
            x.finish(ring);
            Check.due("mend of one that isn't good", x.mend(ring), -1);
        });
    }
}
