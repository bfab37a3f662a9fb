import java.util.Random;

/** Promises 16 to 19, and Terms 4 (N, ADD, BASE, LIGHT, P, which promises 9 and 10 tell): way, along, table, told. */
public final class WaysTest {
    private static final int MIN = Integer.MIN_VALUE;
    private static final int MAX = Integer.MAX_VALUE;

    public static void main(String[] args) {
        numbers();
        bases();
        lights();
        way();
        wayRefused();
        along();
        alongRefused();
        waysThatEnd();
        table();
        tableTooSmall();
        told();
        toldRefused();
        Check.end("WaysTest");
    }

    private static void numbers() {
        Check.sentence(10, "N: 1 of a Leave, a Stop; else the sum, over its EDGES, of N of where it goes", () -> {
            CounterPlacer x = new CounterPlacer();
            int r = Build.finished(x, "F F L S C0", "1>2:1 0>1:1 1>3:1 0>1:1 0>4:1 4>1:1");
            Check.blocksAre(x, r, 4, 6, 2, 1, 1, 2);
        });
        Check.sentence(10, "N: 1 of a BACK one", () -> {
            CounterPlacer x = new CounterPlacer();
            Check.blocksAre(x, Build.finished(x, "F F L", "0>1:1 0>0:1* 1>0:1* 1>2:1 1>2:1"), 4, 4, 3, 1);
            Check.blocksAre(x, Build.finished(x, "G F L L", "0>1:1* 1>2:1 1>3:1"), 4, 1, 2, 1, 1);
        });
        Check.sentence(9, "ADD is that sum over the EDGES ahead of it out of its BLOCK", () -> {
            CounterPlacer x = new CounterPlacer();
            int r = Build.finished(x, "F F L S", "1>2:1 0>1:1 1>3:1 0>1:1 0>2:1");
            Check.edgesAre(x, r, 8, 0, 0, 1, 2, 4);
            Check.edgesAre(x, Build.finished(x, "F F L", "0>1:1 0>0:1* 1>0:1* 1>2:1 1>2:1"), 8, 0, 3, 0, 1, 2);
            // the last block is no end
            Check.edgesAre(x, Build.finished(x, "F L F", "0>2:1 0>1:1 2>1:1 2>1:1"), 8, 0, 2, 0, 1);
        });
        Check.sentence(9, "ADD and N of the largest ROUTINE, whichever way its BLOCKS go", () -> {
            for (boolean falling : new boolean[] {false, true}) {
                CounterPlacer x = new CounterPlacer();
                int r = chainOfForks(x, falling);
                Check.due("ways", Check.look(x, r, 5), 9L << 17);
                Check.due("add of the last out of block 0", Check.ofEdge(x, r, 2, 8), 2 * (3L << 17));
                Check.due("the last way's last block", x.way(r, (9L << 17) - 1, 19), falling ? 1 : 19);
                Check.due("no 21st", x.way(r, (9L << 17) - 1, 20), -1);
            }
        });
    }

    /** 19 Forks in a chain, the first two of three edges, the others of two, and a Leave. */
    private static int chainOfForks(CounterPlacer x, boolean falling) {
        int r = Build.open(x, falling ? "F L " + Build.many(18, "F", "") : Build.many(19, "F", "L"), "");
        int at = 0;
        for (int i = 0; i < 19; i++) {
            int next = falling ? (i == 0 ? 19 : at - 1) : at + 1;
            for (int k = 0; k < (i < 2 ? 3 : 2); k++) {
                x.edge(r, at, next, i, false);
            }
            at = next;
        }
        Check.due("finish", x.finish(r), 0);
        return r;
    }

    private static void bases() {
        Check.sentence(10, "BASE of HEADS, as blocks rising: N(0) and N of those HEADS ahead of it", () -> {
            CounterPlacer x = new CounterPlacer();
            int r = Build.finished(x, "F F F L", "0>2:1 0>1:1 1>2:1* 1>3:1 2>1:1* 2>3:1 2>3:1");
            // N: 5, 2, 3, 1
            Check.blocksAre(x, r, 4, 5, 2, 3, 1);
            Check.blocksAre(x, r, 5, -1, 5, 7, -1);
            Check.due("ways", Check.look(x, r, 5), 10);
        });
        Check.sentence(10, "BLOCK 0 as a HEAD, too", () -> {
            CounterPlacer x = new CounterPlacer();
            int r = Build.finished(x, "F F L", "0>1:1 0>0:1* 1>1:1* 1>2:1 1>0:1*");
            // N: 4, 3, 1
            Check.blocksAre(x, r, 5, 4, 8, -1);
            Check.due("ways", Check.look(x, r, 5), 11);
        });
        Check.sentence(10, "one HEAD, however many BACK EDGES go to it", () -> {
            CounterPlacer x = new CounterPlacer();
            int r = Build.finished(x, "G F L", "0>1:1 1>1:1* 1>1:1* 1>1:1* 1>2:1");
            Check.blocksAre(x, r, 5, -1, 4, -1);
            Check.due("ways", Check.look(x, r, 5), 8);
        });
        Check.sentence(8, "WAYS are N(0) and N of all HEADS", () -> {
            CounterPlacer x = new CounterPlacer();
            StringBuilder edges = new StringBuilder();
            for (int b = 0; b < 19; b++) {
                edges.append(b).append('>').append(b + 1).append(":1 ").append(b).append('>').append(b).append(":1* ");
            }
            int r = Build.finished(x, Build.many(19, "F", "L"), edges.toString());
            // N(b) is 20 - b, each Fork a head
            Check.due("ways", Check.look(x, r, 5), 20 + 209);
            Check.due("base of the last head", Check.ofBlock(x, r, 18, 5), 20 + 207);
            wayIs(x, r, 228, new int[] {18}, new int[] {37});
        });
    }

    private static void lights() {
        Check.sentence(9, "LIGHT: trees in order of GUESSES; LIGHT is its ADD and P of its BLOCK less P of where it goes", () -> {
            CounterPlacer x = new CounterPlacer();
            int r = Build.finished(x, "F F L L", "0>2:1 0>1:9 1>3:9 1>2:9 0>3:0*");
            // the tree: 0>1 (add 1), 1>3 (add 0), 1>2 (add 1)
            Check.blocksAre(x, r, 6, 0, 1, 2, 1);
            Check.edgesAre(x, r, 9, -2, 0, 0, 0, 0);
        });
        Check.sentence(9, "LIGHT: of several GUESSES alike the lesser number", () -> {
            CounterPlacer x = new CounterPlacer();
            Check.edgesAre(x, Build.finished(x, "F L", "0>1:3 0>1:3 0>1:3"), 9, 0, 1, 2);
            Check.edgesAre(x, Build.finished(x, "F L", "0>1:3 0>1:4 0>1:4"), 9, -1, 0, 1);
        });
        Check.sentence(9, "LIGHT (without END): an EDGE may be in a tree though it has a COUNTER", () -> {
            CounterPlacer x = new CounterPlacer();
            int r = Build.finished(x, "F L L", "0>1:1 0>2:1");
            Check.edgesAre(x, r, 4, 1, 1);
            Check.edgesAre(x, r, 9, 0, 0);
            Check.blocksAre(x, r, 6, 0, 0, 1);
        });
        Check.sentence(9, "LIGHT: trees of the EDGES that aren't BACK", () -> {
            CounterPlacer x = new CounterPlacer();
            int r = Build.finished(x, "F F L", "0>1:1 0>1:9* 0>1:2 1>2:1 1>0:9*");
            // ADDs 0, 2, 3, 0, 1
            Check.edgesAre(x, r, 9, -3, 0, 0, 0, 0);
        });
        Check.sentence(10, "P of the least BLOCK of each tree is 0", () -> {
            CounterPlacer x = new CounterPlacer();
            // block 1 is the least of the second tree, though an edge leads to it
            int r = Build.finished(x, "F F F L L", "0>4:1 0>2:1* 2>1:1 2>1:3 1>3:1 1>3:2");
            Check.blocksAre(x, r, 6, 0, 0, -2, 1, 0);
            Check.edgesAre(x, r, 9, 0, 0, -2, 0, -1, 0);
            // block 0 is the least, though its tree comes to another one by an edge into it
            int late = Build.finished(x, "F F L L", "0>2:9 0>1:1 1>3:1 1>2:8");
            Check.blocksAre(x, late, 6, 0, -1, 0, -1);
            Check.edgesAre(x, late, 9, 0, 2, 0, 0);
        });
        Check.sentence(10, "along an EDGE of this tree P is more by its ADD (gone the other way: less)", () -> {
            CounterPlacer x = new CounterPlacer();
            int r = Build.finished(x, "F L F L", "0>1:1 0>2:1* 2>3:1 2>1:3");
            // 0>1, then 2>1 (add 1) the other way, then 2>3
            Check.blocksAre(x, r, 6, 0, 0, -1, -1);
        });
        Check.sentence(10, "a BLOCK without EDGES that aren't BACK is a tree by itself", () -> {
            CounterPlacer x = new CounterPlacer();
            Check.blocksAre(x, Build.finished(x, "F L", "0>1:5* 0>1:4*"), 6, 0, 0);
        });
        Check.sentence(9, "a WAY's number is its BASE less P of its beginning, its LIGHTS, P of its end, a BACK EDGE's ADD",
                WaysTest::lightSums);
    }

    private static void lightSums() {
        Random random = new Random(3);
        for (int i = 0; i < 300; i++) {
            CounterPlacer x = new CounterPlacer();
            int r = Build.open(x, "F F F F F L", "");
            for (int b = 0; b < 5; b++) {
                x.edge(r, b, b + 1, random.nextInt(9), false);
                for (int k = 0; k < 2; k++) {
                    int to = random.nextInt(6);
                    x.edge(r, b, to, random.nextInt(9), to <= b || random.nextInt(9) == 0);
                }
            }
            Check.due("finish", x.finish(r), 0);
            int ways = (int) x.look(r, 5);
            for (int k = 0; k < 15; k++) {
                int n = random.nextInt(ways);
                Check.due("sum of lights", lightSum(x, r, n), n);
            }
        }
    }

    private static long lightSum(CounterPlacer x, int r, long n) {
        int begins = x.way(r, n, 0);
        long sum = (n < x.ofBlock(r, 0, 4) ? 0 : x.ofBlock(r, begins, 5)) - x.ofBlock(r, begins, 6);
        int k = 0;
        for (; x.way(r, n, k + 1) != -1; k++) {
            sum += x.ofEdge(r, x.along(r, n, k), 9);
        }
        int last = x.along(r, n, k);
        return sum + x.ofBlock(r, x.way(r, n, k), 6) + (last == -1 ? 0 : x.ofEdge(r, last, 8));
    }

    private static void wayIs(CounterPlacer x, int r, long n, int[] blocks, int[] edges) {
        for (int k = 0; k < blocks.length; k++) {
            Check.due("way(" + n + ", " + k + ")", x.way(r, n, k), blocks[k]);
        }
        Check.due("behind way " + n, x.way(r, n, blocks.length), -1);
        for (int k = 0; k < edges.length; k++) {
            Check.due("along(" + n + ", " + k + ")", x.along(r, n, k), edges[k]);
        }
        Check.due("behind along " + n, x.along(r, n, edges.length), -1);
    }

    private static void way() {
        Check.sentence(16, "the k-th BLOCK of WAY number n, to a Leave or a Stop", () -> {
            CounterPlacer x = new CounterPlacer();
            int r = Build.finished(x, "F F L S", "1>2:1 0>1:1 1>3:1 0>1:1 0>2:1");
            wayIs(x, r, 0, new int[] {0, 1, 2}, new int[] {1, 0});
            wayIs(x, r, 1, new int[] {0, 1, 3}, new int[] {1, 2});
            wayIs(x, r, 2, new int[] {0, 1, 2}, new int[] {3, 0});
            wayIs(x, r, 3, new int[] {0, 1, 3}, new int[] {3, 2});
            wayIs(x, r, 4, new int[] {0, 2}, new int[] {4});
        });
        Check.sentence(16, "a WAY of one BLOCK", () -> {
            CounterPlacer x = new CounterPlacer();
            wayIs(x, Build.finished(x, "L", ""), 0, new int[] {0}, new int[] {});
            wayIs(x, Build.finished(x, "S", ""), 0, new int[] {0}, new int[] {});
        });
        Check.sentence(16, "(A BACK EDGE's end isn't told as a BLOCK of it.)", () -> {
            CounterPlacer x = new CounterPlacer();
            int r = Build.finished(x, "F F L", "0>1:1 0>0:1* 1>1:1* 1>2:1 1>0:1*");
            wayIs(x, r, 0, new int[] {0, 1}, new int[] {0, 2});
            wayIs(x, r, 2, new int[] {0, 1}, new int[] {0, 4});
            wayIs(x, r, 3, new int[] {0}, new int[] {1});
        });
        Check.sentence(16, "WAYS that begin at a HEAD: the first and the last of each", () -> {
            CounterPlacer x = new CounterPlacer();
            int r = Build.finished(x, "F F L", "0>1:1 0>0:1* 1>1:1* 1>2:1 1>0:1*");
            wayIs(x, r, 4, new int[] {0, 1}, new int[] {0, 2});
            wayIs(x, r, 5, new int[] {0, 1, 2}, new int[] {0, 3});
            wayIs(x, r, 7, new int[] {0}, new int[] {1});
            wayIs(x, r, 8, new int[] {1}, new int[] {2});
            wayIs(x, r, 10, new int[] {1}, new int[] {4});
            // a head that only a back edge reaches, and one that is an end
            int far = Build.finished(x, "F L G", "0>1:0 0>2:0* 2>1:0*");
            wayIs(x, far, 1, new int[] {0}, new int[] {1});
            wayIs(x, far, 2, new int[] {1}, new int[] {});
            wayIs(x, far, 3, new int[] {2}, new int[] {2});
        });
        Check.sentence(16, "a WAY of all 20 BLOCKS", () -> {
            CounterPlacer x = new CounterPlacer();
            int r = chainOfForks(x, false);
            for (int k = 0; k < 20; k++) {
                Check.due("way(0, " + k + ")", x.way(r, 0, k), k);
            }
            Check.due("way(0, 20)", x.way(r, 0, 20), -1);
        });
    }

    private static CounterPlacer twoLeaves() {
        CounterPlacer x = new CounterPlacer();
        Build.finished(x, "F L L", "0>1:1 0>2:1");
        return x;
    }

    private static void wayRefused() {
        Check.sentence(16, "NONE: no such ROUTINE", () -> {
            CounterPlacer x = twoLeaves();
            for (int none : Check.outside(1)) {
                Check.due("way of routine " + none, x.way(none, 0, 0), -1);
            }
        });
        Check.sentence(16, "NONE: no such ROUTINE that is FINISHED", () -> {
            CounterPlacer x = new CounterPlacer();
            int r = Build.open(x, "F L", "0>0:1 0>1:1");
            Check.due("way", x.way(r, 0, 0), -1);
            x.finish(r);
            Check.due("way of one that isn't good", x.way(r, 0, 0), -1);
        });
        Check.sentence(16, "NONE: no such WAY", () -> {
            CounterPlacer x = twoLeaves();
            for (long n : new long[] {-1, 2, 3, 1L << 32, (1L << 32) + 1, -(1L << 32), Long.MIN_VALUE, Long.MAX_VALUE}) {
                Check.due("way(" + n + ")", x.way(0, n, 0), -1);
            }
            Check.due("the last", x.way(0, 1, 1), 2);
        });
        Check.sentence(16, "NONE: no such k", () -> {
            CounterPlacer x = twoLeaves();
            for (int k : new int[] {-1, 2, 3, 19, 20, 21, MIN, MAX}) {
                Check.due("way(1, " + k + ")", x.way(0, 1, k), -1);
            }
            // a longer way that was asked for ahead leaves nothing behind
            int longer = chainOfForks(x, false);
            x.way(longer, 0, 19);
            Check.due("way(1, 2)", x.way(0, 1, 2), -1);
        });
    }

    private static void along() {
        Check.sentence(17, "the EDGE by which the k-th BLOCK of WAY n is left", () -> {
            CounterPlacer x = twoLeaves();
            Check.due("along(0, 0)", x.along(0, 0, 0), 0);
            Check.due("along(1, 0)", x.along(0, 1, 0), 1);
        });
        Check.sentence(17, "a BLOCK may be left by a BACK EDGE", () -> {
            CounterPlacer x = new CounterPlacer();
            int r = Build.finished(x, "F G L", "0>1:1 0>2:1 1>0:1*");
            Check.due("along(0, 0)", x.along(r, 0, 0), 0);
            Check.due("along(0, 1)", x.along(r, 0, 1), 2);
            Check.due("along(0, 2)", x.along(r, 0, 2), -1);
        });
        Check.sentence(17, "NONE where it isn't left: a Leave, a Stop", () -> {
            CounterPlacer x = new CounterPlacer();
            int r = Build.finished(x, "F L S", "0>1:1 0>2:1");
            Check.due("the Leave", x.along(r, 0, 1), -1);
            Check.due("the Stop", x.along(r, 1, 1), -1);
            Check.due("which is in the way", x.way(r, 1, 1), 2);
        });
        Check.sentence(17, "along all 20 BLOCKS", () -> {
            CounterPlacer x = new CounterPlacer();
            int r = chainOfForks(x, false);
            for (int k = 0; k < 19; k++) {
                Check.due("along(0, " + k + ")", x.along(r, 0, k), k < 2 ? 3 * k : 2 * k + 2);
            }
            Check.due("along(0, 19)", x.along(r, 0, 19), -1);
            Check.due("along(0, 20)", x.along(r, 0, 20), -1);
        });
    }

    private static void alongRefused() {
        Check.sentence(17, "NONE likewise: no such ROUTINE", () -> {
            CounterPlacer x = twoLeaves();
            for (int none : Check.outside(1)) {
                Check.due("along of routine " + none, x.along(none, 0, 0), -1);
            }
        });
        Check.sentence(17, "NONE likewise: no such ROUTINE that is FINISHED", () -> {
            CounterPlacer x = new CounterPlacer();
            int r = Build.open(x, "F L", "0>0:1 0>1:1");
            Check.due("along", x.along(r, 0, 0), -1);
            x.finish(r);
            Check.due("along of one that isn't good", x.along(r, 0, 0), -1);
        });
        Check.sentence(17, "NONE likewise: no such WAY", () -> {
            CounterPlacer x = twoLeaves();
            for (long n : new long[] {-1, 2, 3, 1L << 32, (1L << 32) + 1, -(1L << 32), Long.MIN_VALUE, Long.MAX_VALUE}) {
                Check.due("along(" + n + ")", x.along(0, n, 0), -1);
            }
        });
        Check.sentence(17, "NONE likewise: no such k", () -> {
            CounterPlacer x = twoLeaves();
            for (int k : new int[] {-1, 1, 2, 19, 20, 21, MIN, MAX}) {
                Check.due("along(1, " + k + ")", x.along(0, 1, k), -1);
            }
        });
    }

    private static void waysThatEnd() {
        Check.sentence(18, "a WAY begins as the FRAME comes; one that ends in a Leave is one more", () -> {
            CounterPlacer x = twoLeaves();
            x.begin(0);
            x.go(1, 1);
            Check.due("in the Leave, not left", x.table(0, 0, 0), -1);
            x.go(1, 0);
            Check.due("left", x.table(0, 0, 0), 1);
        });
        Check.sentence(18, "one that ends in a Stop is one more", () -> {
            CounterPlacer x = new CounterPlacer();
            Build.finished(x, "F L S", "0>1:1 0>2:1");
            x.begin(0);
            x.go(1, 1);
            Check.due("in the Stop, not stopped", x.table(0, 0, 0), -1);
            x.go(1, 0);
            Check.due("stopped", x.table(0, 0, 0), 1);
            Check.due("how often", x.table(0, 0, 1), 1);
        });
        Check.sentence(18, "one that is STOPPED but in a Stop doesn't end", () -> {
            CounterPlacer x = new CounterPlacer();
            Build.finished(x, "S", "");
            Build.finished(x, "C0 L", "0>1:1");
            Build.finished(x, "C7 L", "0>1:1");
            x.begin(1);
            x.go(9, 0);
            Check.due("below the Stop", Check.look(x, 1, 8), 0);
            Check.due("in the Stop", Check.look(x, 0, 8), 1);
            x.begin(2);
            x.go(9, 0);
            Check.due("stuck", Check.look(x, 2, 8), 0);
            Check.due("stuck", Check.look(x, 2, 7), 0);
        });
        Check.sentence(18, "one begins behind each BACK EDGE (from where that goes to)", () -> {
            CounterPlacer x = new CounterPlacer();
            // N: 3, 2, 1; heads 1 (base 3) and 2 (base 5)
            int r = Build.finished(x, "F F L", "0>1:1 0>2:1* 1>1:1* 1>2:1");
            x.begin(r);
            Check.due("go", x.go(9, 0 | 0 << 2 | 1 << 4), 4);
            Check.due("to the back edge", x.table(r, 0, 0), 0);
            Check.due("from block 1 on", x.table(r, 1, 0), 4);
            x.begin(r);
            Check.due("go", x.go(9, 1), 2);
            Check.due("to the back edge", x.table(r, 2, 0), 2);
            Check.due("of the Leave alone", x.table(r, 3, 0), 5);
        });
        Check.sentence(18, "each FRAME counts its WAYS, the top one first", () -> {
            CounterPlacer x = new CounterPlacer();
            int r = Build.finished(x, "F C0 L", "0>1:1 0>2:1 1>2:1");
            x.begin(r);
            Check.due("go", x.go(9, 1 << 2), 5);
            Check.due("of the called frame", x.table(r, 0, 0), 1);
            Check.due("of the caller", x.table(r, 1, 0), 0);
            // the way that ends by the Call's back edge comes behind that of the frame which leaves
            int back = Build.finished(x, "F C1 L", "0>1:1 0>2:1 1>0:1*");
            x.begin(back);
            Check.due("go", x.go(9, 1 << 2 | 1 << 4), 6);
            Check.due("of the called frame", x.table(back, 0, 0), 1);
            Check.due("by the back edge", x.table(back, 1, 0), 0);
            Check.due("behind it", x.table(back, 2, 0), 3);
        });
    }

    private static void table() {
        Check.sentence(18, "row k, what 0: the WAY, 1: how often, in the order in which they came", () -> {
            CounterPlacer x = twoLeaves();
            for (int choice : new int[] {1, 0, 1}) {
                x.begin(0);
                x.go(9, choice);
            }
            Check.due("first way", x.table(0, 0, 0), 1);
            Check.due("how often", x.table(0, 0, 1), 2);
            Check.due("second way", x.table(0, 1, 0), 0);
            Check.due("how often", x.table(0, 1, 1), 1);
        });
        Check.sentence(18, "NONE if there is none such: ROUTINE", () -> {
            CounterPlacer x = twoLeaves();
            x.begin(0);
            x.go(9, 0);
            for (int none : Check.outside(1)) {
                Check.due("table of routine " + none, x.table(none, 0, 0), -1);
            }
            Check.due("of one not finished", x.table(Build.open(x, "L", ""), 0, 0), -1);
        });
        Check.sentence(18, "NONE if there is none such: row", () -> {
            CounterPlacer x = twoLeaves();
            Check.due("empty", x.table(0, 0, 0), -1);
            x.begin(0);
            x.go(9, 0);
            for (int k : new int[] {-1, 1, 2, 15, 16, MIN, MAX}) {
                Check.due("row " + k, x.table(0, k, 0), -1);
                Check.due("row " + k, x.table(0, k, 1), -1);
            }
        });
        Check.sentence(18, "NONE if there is none such: what", () -> {
            CounterPlacer x = twoLeaves();
            x.begin(0);
            x.go(9, 0);
            for (int what : Check.outside(2)) {
                Check.due("what " + what, x.table(0, 0, what), -1);
            }
        });
    }

    private static void tableTooSmall() {
        Check.sentence(18, "16 numbers at most, in the order in which they came", () -> {
            CounterPlacer x = new CounterPlacer();
            int r = Build.eighteenWays(x);
            for (int i = 17; i >= 0; i--) {
                Build.goWay(x, r, i);
            }
            for (int k = 0; k < 16; k++) {
                Check.due("row " + k, x.table(r, k, 0), 17 - k);
                Check.due("row " + k, x.table(r, k, 1), 1);
            }
            Check.due("row 16", x.table(r, 16, 0), -1);
            Check.due("rows", Check.look(x, r, 8), 16);
        });
        Check.sentence(18, "others FELL OUT, each time one more", () -> {
            CounterPlacer x = new CounterPlacer();
            int r = Build.eighteenWays(x);
            for (int i = 0; i < 16; i++) {
                Build.goWay(x, r, i);
            }
            Check.due("fell out", Check.look(x, r, 7), 0);
            int[] ways = {16, 17, 16, 16};
            for (int i = 0; i < ways.length; i++) {
                Build.goWay(x, r, ways[i]);
                Check.due("fell out", Check.look(x, r, 7), i + 1);
            }
            Check.due("row 15 stays", x.table(r, 15, 1), 1);
        });
        Check.sentence(18, "one that is in a full TABLE is one more there", () -> {
            CounterPlacer x = new CounterPlacer();
            int r = Build.eighteenWays(x);
            for (int i = 0; i < 17; i++) {
                Build.goWay(x, r, i);
            }
            Build.goWay(x, r, 0);
            Build.goWay(x, r, 15);
            Check.due("row 0", x.table(r, 0, 1), 2);
            Check.due("row 15", x.table(r, 15, 1), 2);
            Check.due("fell out", Check.look(x, r, 7), 1);
        });
    }

    private static void told() {
        Check.sentence(19, "how often an EDGE ran as its ROUTINE's TABLE tells it", () -> {
            CounterPlacer x = new CounterPlacer();
            int r = Build.finished(x, "F G L", "0>1:1 0>2:1 1>0:1*");
            Check.due("an empty table", x.told(r, 0), 0);
            x.begin(r);
            x.go(5, 0);
            Check.due("told", x.told(r, 0), 2);
            Check.due("of the back one", x.told(r, 2), 2);
            Check.due("of none", x.told(r, 1), 0);
            Check.due("a way that didn't end isn't told", Check.ofEdge(x, r, 0, 6), 3);
        });
        Check.sentence(19, "all rows whose WAYS have it, not those that FELL OUT", () -> {
            CounterPlacer x = new CounterPlacer();
            int r = Build.eighteenWays(x);
            for (int i = 0; i < 18; i++) {
                Build.goWay(x, r, i);
            }
            Build.goWay(x, r, 3);
            // ways 16 and 17 go edges 2, 5 and then 6 or 7
            long[] due = {7, 6, 4, 6, 7, 4, 8, 9};
            for (int e = 0; e < 8; e++) {
                Check.due("told of " + e, x.told(r, e), due[e]);
            }
            Check.edgesAre(x, r, 6, 7, 6, 6, 6, 7, 6, 9, 10);
        });
        Check.sentence(19, "rows of one WAY, many times", () -> {
            CounterPlacer x = new CounterPlacer();
            int r = Build.finished(x, "F L", "0>0:1* 0>1:1");
            x.begin(r);
            for (int i = 0; i < 300; i++) {
                x.go(10000, 0);
            }
            Check.due("told", x.told(r, 0), 3000000);
            Check.due("row 1", x.table(r, 1, 1), 2999999);
        });
    }

    private static void toldRefused() {
        Check.sentence(19, "NONE: no such EDGE", () -> {
            CounterPlacer x = twoLeaves();
            for (int none : Check.outside(2)) {
                Check.due("told of edge " + none, x.told(0, none), -1);
            }
            for (int none : Check.outside(1)) {
                Check.due("told of routine " + none, x.told(none, 0), -1);
            }
        });
        Check.sentence(19, "NONE: not FINISHED", () -> {
            CounterPlacer x = new CounterPlacer();
            Check.due("told", x.told(Build.open(x, "F L", "0>1:1 0>1:1"), 0), -1);
        });
    }
}
