import java.util.Random;

/** Promises 11 and 12, with what Terms 3 say of SOLVED: solve, ring. */
public final class SolveTest {
    public static void main(String[] args) {
        solve();
        solveWhatStopped();
        solveRefused();
        ring();
        ringRefused();
        Check.end("SolveTest");
    }

    private static void solvedIs(CounterPlacer x, int r, long... due) {
        for (int e = 0; e < due.length; e++) {
            Check.due("solve(" + r + ", " + e + ")", x.solve(r, e), due[e]);
        }
        Check.edgesAre(x, r, 6, due);
    }

    private static void solve() {
        Check.sentence(11, "the count of an EDGE: 0 as long as nothing ran", () -> {
            CounterPlacer x = new CounterPlacer();
            int r = Build.finished(x, Build.DIAMOND, Build.DIAMOND_EDGES);
            solvedIs(x, r, 0, 0, 0, 0);
            x.begin(r);
            solvedIs(x, r, 0, 0, 0, 0);
        });
        Check.sentence(11, "by COUNTERS: those that have one, and those that follow", () -> {
            CounterPlacer x = new CounterPlacer();
            int r = Build.finished(x, Build.DIAMOND, Build.DIAMOND_EDGES);
            for (int choice : new int[] {0, 1, 1}) {
                x.begin(r);
                x.go(9, choice);
            }
            Check.edgesAre(x, r, 7, 0, 0, 1, 2);
            solvedIs(x, r, 1, 2, 1, 2);
        });
        Check.sentence(11, "what comes in is what goes out, and is OPEN", () -> {
            CounterPlacer x = new CounterPlacer();
            int r = Build.finished(x, "G G L", "0>1:1 1>2:1");
            x.begin(r);
            x.go(1, 0);
            Check.edgesAre(x, r, 7, 0, 0);
            solvedIs(x, r, 1, 0);
            x.go(1, 0);
            solvedIs(x, r, 1, 1);
            x.go(1, 0);
            solvedIs(x, r, 1, 1);
        });
        Check.sentence(11, "OPEN are all FRAMES of the ROUTINE, those below, too", () -> {
            CounterPlacer x = new CounterPlacer();
            int r = Build.finished(x, "G C0 L", "0>1:9 1>2:1");
            x.begin(r);
            x.go(58, 0);
            Check.runIs(x, 1, 30, 58, r, 0);
            solvedIs(x, r, 29, 0);
            x.go(1, 0);
            solvedIs(x, r, 30, 0);
        });
        Check.sentence(11, "SOLVED by COUNTERS and LOG, as it is TRUE, at every STEP", SolveTest::solvedAtEveryStep);
        Check.sentence(11, "by COUNTERS of the PLAN of then, each time it is planned anew", SolveTest::solvedByEachPlan);
        Check.sentence(11, "counts that are large", () -> {
            CounterPlacer x = new CounterPlacer();
            int r = Build.finished(x, "G G F L", "0>1:9 1>2:9 2>0:9* 2>3:1");
            x.begin(r);
            for (int i = 0; i < 300; i++) {
                Check.due("go", x.go(10000, 0), 10000);
            }
            solvedIs(x, r, 1000000, 1000000, 1000000, 0);
            Check.due("steps", x.run(2), 3000000);
        });
    }

    private static void solvedAtEveryStep() {
        Random random = new Random(5);
        for (int i = 0; i < 40; i++) {
            CounterPlacer x = new CounterPlacer();
            int r = Build.finished(x, "F G C1 L S", "0>1:4 0>2:7 0>4:2 1>0:4* 2>3:7");
            int called = Build.finished(x, "F L S C0", "0>1:3 0>2:1 0>3:2 3>1:0");
            for (int step = 0; step < 20; step++) {
                if (x.go(1, random.nextInt()) < 0) {
                    x.begin(random.nextInt(2));
                }
                for (int e = 0; e < 5; e++) {
                    Check.due("solve of " + e, x.solve(r, e), Check.ofEdge(x, r, e, 6));
                }
                for (int e = 0; e < 4; e++) {
                    Check.due("solve of " + e, x.solve(called, e), Check.ofEdge(x, called, e, 6));
                }
            }
        }
    }

    private static void solvedByEachPlan() {
        Random random = new Random(7);
        for (int i = 0; i < 20; i++) {
            CounterPlacer x = new CounterPlacer();
            int r = Build.finished(x, "F F G L G", "0>1:4 0>2:3 0>4:2 1>2:4 1>0:1* 2>3:7 4>1:3");
            for (int plan = 0; plan < 5; plan++) {
                for (int k = 0; k < 3; k++) {
                    x.begin(r);
                    x.go(1 + random.nextInt(12), random.nextInt());
                    for (int e = 0; e < 7; e++) {
                        Check.due("solve of " + e, x.solve(r, e), Check.ofEdge(x, r, e, 6));
                    }
                }
                // so that no frame is left
                x.begin(r);
                x.go(20, 1);
                for (int e = 0; e < 7; e++) {
                    x.guess(r, e, random.nextInt(5));
                }
                Check.due("plan", x.plan(r), 7 - 3);
            }
        }
    }

    private static void solveWhatStopped() {
        Check.sentence(11, "and how often it was STOPPED: by a Stop", () -> {
            CounterPlacer x = new CounterPlacer();
            int r = Build.finished(x, "F S L", "0>1:3 0>2:3");
            x.begin(r);
            x.go(1, 0);
            solvedIs(x, r, 1, 0);
            x.go(1, 0);
            Check.runIs(x, 3, 0);
            solvedIs(x, r, 1, 0);
        });
        Check.sentence(11, "and how often it was STOPPED: in a Call below a Stop", () -> {
            CounterPlacer x = new CounterPlacer();
            Build.finished(x, "S", "");
            int r = Build.finished(x, "G C0 L", "0>1:9 1>2:1");
            x.begin(r);
            x.go(9, 0);
            Check.runIs(x, 3, 0, 3);
            solvedIs(x, r, 1, 0);
        });
        Check.sentence(11, "and how often it was STOPPED: as it was STUCK", () -> {
            CounterPlacer x = new CounterPlacer();
            int r = Build.finished(x, "G C7 L", "0>1:9 1>2:1");
            x.begin(r);
            x.go(9, 0);
            Check.runIs(x, 4, 0, 2);
            solvedIs(x, r, 1, 0);
        });
        Check.sentence(11, "and how often it was STOPPED: as another run began", () -> {
            CounterPlacer x = new CounterPlacer();
            int r = Build.finished(x, "G G L", "0>1:9 1>2:1");
            for (int i = 0; i < 3; i++) {
                x.begin(r);
                x.go(1, 0);
            }
            solvedIs(x, r, 3, 0);
            x.begin(r);
            solvedIs(x, r, 3, 0);
        });
    }

    private static void solveRefused() {
        Check.sentence(11, "NONE: no such EDGE", () -> {
            CounterPlacer x = new CounterPlacer();
            int r = Build.finished(x, Build.DIAMOND, Build.DIAMOND_EDGES);
            for (int none : Check.outside(4)) {
                Check.due("solve of edge " + none, x.solve(r, none), -1);
            }
            for (int none : Check.outside(1)) {
                Check.due("solve of routine " + none, x.solve(none, 0), -1);
            }
            Check.due("of one without edges", x.solve(Build.finished(x, "L", ""), 0), -1);
        });
        Check.sentence(11, "NONE: not FINISHED", () -> {
            CounterPlacer x = new CounterPlacer();
            int r = Build.open(x, Build.DIAMOND, Build.DIAMOND_EDGES);
            Check.due("solve", x.solve(r, 0), -1);
            x.finish(r);
            Check.due("solve of the last, finished", x.solve(r, 3), 0);
        });
    }

    private static void ringIs(CounterPlacer x, int r, int counter, int... due) {
        for (int e = 0; e < due.length; e++) {
            Check.due("ring(" + r + ", " + counter + ", " + e + ")", x.ring(r, counter, e), due[e]);
        }
    }

    private static void ring() {
        CounterPlacer x = new CounterPlacer();
        // the tree is END's edges, 0 (0>1) and 1 (1>2)
        int r = Build.finished(x, "F F G L", "0>1:9 1>2:9 1>3:1 0>2:2 2>3:9 0>0:3*");
        Check.sentence(12, "1 that way", () -> {
            ringIs(x, r, 4, 1, 1, 0, 0, 1, 0);
            ringIs(x, r, 2, 1, 0, 1, 0, 0, 0);
        });
        Check.sentence(12, "2 the other way", () -> ringIs(x, r, 3, 2, 2, 0, 1, 0, 0));
        Check.sentence(12, "0 not at all", () -> Check.due("another counter", x.ring(r, 2, 4), 0));
        Check.sentence(12, "itself 1", () -> {
            for (int counter = 2; counter < 6; counter++) {
                Check.due("ring(" + counter + ", itself)", x.ring(r, counter, counter), 1);
            }
            ringIs(x, r, 5, 0, 0, 0, 0, 0, 1);
        });
        Check.sentence(12, "END's aren't told, though the ring goes through them", () -> {
            CounterPlacer y = new CounterPlacer();
            int two = Build.finished(y, "F G L L", "0>1:9 0>3:5 1>2:1");
            // from the Leave by END to block 0
            ringIs(y, two, 2, 1, 0, 1);
            ringIs(y, two, 1, 0, 1, 0);
            for (int e = 3; e < 7; e++) {
                Check.due("END's", y.ring(two, 2, e), -1);
            }
        });
        Check.sentence(12, "with the TREE as it is planned anew", () -> {
            CounterPlacer y = new CounterPlacer();
            int d = Build.finished(y, Build.DIAMOND, Build.DIAMOND_EDGES);
            ringIs(y, d, 3, 0, 1, 0, 1);
            y.guess(d, 3, 20);
            ringIs(y, d, 3, 0, 1, 0, 1);
            y.plan(d);
            ringIs(y, d, 3, -1, -1, -1, -1);
            ringIs(y, d, 1, 0, 1, 0, 1);
        });
        Check.sentence(12, "a ring is what counts can be changed by: gone as it goes, all stay even", SolveTest::ringsAreEven);
    }

    /** Along a ring each block is entered as often as it is left, if END's edges may have any counts. */
    private static void ringsAreEven() {
        Random random = new Random(6);
        for (int i = 0; i < 60; i++) {
            CounterPlacer x = new CounterPlacer();
            int r = Build.open(x, "F F F F L S", "");
            for (int b = 0; b < 4; b++) {
                x.edge(r, b, b + 1, random.nextInt(9), false);
                int to = random.nextInt(5);
                x.edge(r, b, to, random.nextInt(9), to <= b);
            }
            x.edge(r, 3, 5, random.nextInt(9), false);
            Check.due("finish", x.finish(r), 0);
            for (int counter = 0; counter < 9; counter++) {
                if (x.ofEdge(r, counter, 4) == 1) {
                    ringIsEven(x, r, counter);
                }
            }
        }
    }

    private static void ringIsEven(CounterPlacer x, int r, int counter) {
        long[] more = new long[6];
        for (int e = 0; e < 9; e++) {
            int way = x.ring(r, counter, e);
            int step = way == 1 ? 1 : way == 2 ? -1 : 0;
            more[(int) x.ofEdge(r, e, 0)] -= step;
            more[(int) x.ofEdge(r, e, 1)] += step;
        }
        for (int b : new int[] {1, 2, 3, 5}) {
            Check.due("more into block " + b, more[b], 0);
        }
        Check.due("what END takes it gives", more[0] + more[4], 0);
    }

    private static void ringRefused() {
        Check.sentence(12, "NONE: no such EDGES", () -> {
            CounterPlacer x = new CounterPlacer();
            int r = Build.finished(x, Build.DIAMOND, Build.DIAMOND_EDGES);
            for (int none : Check.outside(4)) {
                Check.due("ring of counter " + none, x.ring(r, none, 0), -1);
                Check.due("ring at edge " + none, x.ring(r, 2, none), -1);
                Check.due("ring of " + none + " at itself", x.ring(r, none, none), -1);
            }
            for (int none : Check.outside(1)) {
                Check.due("ring of routine " + none, x.ring(none, 2, 0), -1);
            }
        });
        Check.sentence(12, "NONE: the first one has no COUNTER", () -> {
            CounterPlacer x = new CounterPlacer();
            int r = Build.finished(x, Build.DIAMOND, Build.DIAMOND_EDGES);
            ringIs(x, r, 0, -1, -1, -1, -1);
            ringIs(x, r, 1, -1, -1, -1, -1);
        });
        Check.sentence(12, "NONE: none has one if it isn't FINISHED", () -> {
            CounterPlacer x = new CounterPlacer();
            int r = Build.open(x, Build.DIAMOND, Build.DIAMOND_EDGES);
            for (int counter = 0; counter < 4; counter++) {
                ringIs(x, r, counter, -1, -1, -1, -1);
            }
        });
    }
}
