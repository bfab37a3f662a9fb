/** Promises 13 to 15, with Terms 3: begin, go, run. */
public final class RunsTest {
    private static final int MIN = Integer.MIN_VALUE;
    private static final int MAX = Integer.MAX_VALUE;

    public static void main(String[] args) {
        begin();
        beginInPlace();
        beginRefused();
        goSteps();
        goRefused();
        choices();
        goAndCall();
        leave();
        stop();
        stuck();
        mostFrames();
        run();
        Check.end("RunsTest");
    }

    private static CounterPlacer ofOne(String blocks, String edges) {
        CounterPlacer x = new CounterPlacer();
        Build.finished(x, blocks, edges);
        return x;
    }

    private static void begin() {
        Check.sentence(13, "a run of a ROUTINE begins: true", () -> {
            CounterPlacer x = ofOne("F L L", "0>1:1 0>2:1");
            Check.due("begin", x.begin(0), true);
            Check.runIs(x, 1, 1, 0, 0, 0, 0);
            Check.due("entries", Check.look(x, 0, 6), 1);
            Check.blocksAre(x, 0, 8, 1, 0, 0);
        });
        Check.sentence(13, "a ROUTINE begins with BLOCK 0", () -> {
            CounterPlacer x = ofOne("G F L", "1>2:1 0>1:1 1>0:1*");
            x.begin(0);
            x.go(3, 1 << 0);
            Check.due("block behind three steps", x.run(4), 1);
            x.begin(0);
            Check.due("block", x.run(4), 0);
        });
        Check.sentence(13, "in place of what there was: one that is ENDED", () -> {
            CounterPlacer x = ofOne("G L", "0>1:1");
            x.begin(0);
            x.go(9, 0);
            Check.runIs(x, 2, 0, 2, -1, -1, 1);
            Check.due("begin", x.begin(0), true);
            Check.runIs(x, 1, 1, 0, 0, 0, 0);
            Check.due("nothing was stopped", Check.look(x, 0, 9), 0);
            Check.due("entries", Check.look(x, 0, 6), 2);
        });
    }

    /** Routine 0 calls routine 1, which went back once and stands in its Stop, not stopped by it yet. */
    private static CounterPlacer standingInAStop() {
        CounterPlacer x = new CounterPlacer();
        Build.finished(x, "C1 L", "0>1:5");
        Build.finished(x, "F G S L", "0>0:1* 0>1:1 0>2:1 1>3:1");
        x.begin(0);
        Check.due("go", x.go(3, 0 | 2 << 2), 3);
        Check.runIs(x, 1, 2, 3, 1, 2, 1);
        return x;
    }

    private static void beginInPlace() {
        Check.sentence(13, "in place of what there was: one under way", () -> {
            CounterPlacer x = standingInAStop();
            Check.due("begin", x.begin(1), true);
            Check.runIs(x, 1, 1, 0, 1, 0, 0);
            Check.blocksAre(x, 0, 8, 0, 0);
            Check.blocksAre(x, 1, 8, 1, 0, 0, 0);
        });
        Check.sentence(13, "FRAMES go without a trace but for TRUE", () -> {
            CounterPlacer x = standingInAStop();
            x.begin(1);
            Check.edgesAre(x, 0, 6, 0);
            Check.edgesAre(x, 1, 6, 1, 0, 1, 0);
        });
        Check.sentence(13, "FRAMES go without a trace but for COUNTERS", () -> {
            CounterPlacer x = standingInAStop();
            x.begin(1);
            Check.edgesAre(x, 1, 4, 1, 0, 0, 1);
            Check.edgesAre(x, 1, 7, 1, 0, 0, 0);
        });
        Check.sentence(13, "FRAMES go without a trace but for ENTRIES", () -> {
            CounterPlacer x = standingInAStop();
            x.begin(1);
            Check.due("entries of the caller", Check.look(x, 0, 6), 1);
            Check.due("entries of the called", Check.look(x, 1, 6), 2);
        });
        Check.sentence(13, "and one STOPPED each", () -> {
            CounterPlacer x = standingInAStop();
            x.begin(1);
            Check.blocksAre(x, 0, 7, 1, 0);
            Check.blocksAre(x, 1, 7, 0, 0, 1, 0);
            CounterPlacer y = ofOne("F C0 L", "0>1:1 0>2:1 1>2:1");
            y.begin(0);
            y.go(58, 0);
            y.begin(0);
            Check.blocksAre(y, 0, 7, 1, 29, 0);
        });
        Check.sentence(13, "without a trace: no WAY is one more, not even in a Stop or a Leave", () -> {
            CounterPlacer x = standingInAStop();
            x.begin(1);
            Check.due("the way that had ended stays", Check.look(x, 1, 8), 1);
            Check.due("row 0", x.table(1, 0, 1), 1);
            Check.due("of the caller", Check.look(x, 0, 8), 0);
            CounterPlacer y = ofOne("G L", "0>1:1");
            y.begin(0);
            y.go(1, 0);
            y.begin(0);
            Check.due("in a Leave", Check.look(y, 0, 8), 0);
        });
    }

    private static void beginRefused() {
        Check.sentence(13, "false, and nothing happens: no such ROUTINE", () -> {
            CounterPlacer x = ofOne("F L L", "0>1:1 0>2:1");
            x.begin(0);
            x.go(1, 0);
            for (int none : Check.outside(1)) {
                Check.due("begin(" + none + ")", x.begin(none), false);
            }
            Check.runIs(x, 1, 1, 1, 0, 1, 1);
            Check.due("stopped", Check.look(x, 0, 9), 0);
        });
        Check.sentence(13, "false, and nothing happens: it isn't FINISHED", () -> {
            CounterPlacer x = new CounterPlacer();
            int open = Build.open(x, "G", "");
            Check.due("begin", x.begin(open), false);
            Check.runIs(x, 0, 0, 0, -1, -1, 0);
            x.begin(Build.finished(x, "G L", "0>1:1"));
            x.finish(open);
            Check.due("begin", x.begin(open), false);
            Check.runIs(x, 1, 1, 0, 1, 0, 0);
            Check.due("entries", Check.look(x, open, 6), 0);
        });
    }

    private static void goSteps() {
        Check.sentence(14, "STEPS, n at most: how many were done", () -> {
            CounterPlacer x = ofOne("F L", "0>0:1* 0>1:1");
            x.begin(0);
            for (int n : new int[] {1, 2, 7, 9999, 10000}) {
                Check.due("go(" + n + ")", x.go(n, 0), n);
            }
            Check.runIs(x, 1, 1, 20009, 0, 0, 20009);
        });
        Check.sentence(14, "till the run is ENDED", () -> {
            CounterPlacer x = ofOne("G G L", "0>1:1 1>2:1");
            for (int n : new int[] {3, 4, 10000}) {
                x.begin(0);
                Check.due("go(" + n + ")", x.go(n, 0), 3);
                Check.runIs(x, 2, 0, 3, -1, -1, 1);
            }
            x.begin(0);
            Check.due("go(2)", x.go(2, 0), 2);
            Check.runIs(x, 1, 1, 2, 0, 2, 1);
            Check.due("go(2)", x.go(2, 0), 1);
        });
    }

    private static void goRefused() {
        Check.sentence(14, "NONE: no such n (1 .. 10000)", () -> {
            CounterPlacer x = ofOne("F L", "0>0:1* 0>1:1");
            x.begin(0);
            for (int n : new int[] {0, -1, 10001, MIN, MAX}) {
                Check.due("go(" + n + ")", x.go(n, 0), -1);
            }
            Check.runIs(x, 1, 1, 0, 0, 0, 0);
            Check.edgesAre(x, 0, 6, 0, 0);
        });
        Check.sentence(14, "NONE: no run", () -> {
            CounterPlacer x = ofOne("L", "");
            Check.due("go", x.go(1, 0), -1);
            Check.runIs(x, 0, 0, 0, -1, -1, 0);
        });
        Check.sentence(14, "NONE: no run that isn't ENDED, by a Leave", () -> goBehind(ofOne("L", ""), 2));
        Check.sentence(14, "NONE: no run that isn't ENDED, by a Stop", () -> goBehind(ofOne("S", ""), 3));
        Check.sentence(14, "NONE: no run that isn't ENDED, STUCK", () -> goBehind(ofOne("C7 L", "0>1:1"), 4));
    }

    private static void goBehind(CounterPlacer x, int state) {
        x.begin(0);
        Check.due("go", x.go(10000, 0), 1);
        Check.runIs(x, state, 0, 1, -1, -1, 0);
        Check.due("go behind it", x.go(1, 0), -1);
        Check.due("go behind it", x.go(10000, 0), -1);
        Check.runIs(x, state, 0, 1, -1, -1, 0);
    }

    /** A Fork of so many edges, all back to it but the first, which goes to the Leave. */
    private static CounterPlacer forkOf(int outs) {
        return ofOne("F L", "0>1:1" + " 0>0:1*".repeat(outs - 1));
    }

    private static void choices() {
        Check.sentence(14, "the Fork goes its EDGE .. modulo their number", () -> {
            int[][] due = {{0, 1, 0, 1}, {0, 1, 2, 0}, {0, 1, 2, 3}};
            for (int outs = 2; outs <= 4; outs++) {
                for (int choice = 0; choice < 4; choice++) {
                    CounterPlacer x = forkOf(outs);
                    x.begin(0);
                    // the other bits are for other Forks
                    x.go(1, choice | 0xFFFFFFFC);
                    for (int e = 0; e < outs; e++) {
                        Check.due("choice " + choice + " of " + outs + ", edge " + e,
                                Check.ofEdge(x, 0, e, 6), e == due[outs - 2][choice] ? 1 : 0);
                    }
                }
            }
        });
        Check.sentence(14, "choices >> 2 (k modulo 16) & 3: each Fork has two bits", () -> {
            for (int k = 0; k < 16; k++) {
                CounterPlacer x = forkOf(4);
                x.begin(0);
                int threes = ~(3 << 2 * k);
                Check.due("go", x.go(40, threes | 1 << 2 * k), 40);
                // of 40 Forks the k-th of each 16 goes edge 1
                Check.edgesAre(x, 0, 6, 0, k < 8 ? 3 : 2, 0, k < 8 ? 37 : 38);
            }
        });
        Check.sentence(14, "k modulo 16: the 16th Fork has the highest bits, the 17th the lowest again", () -> {
            CounterPlacer x = ofOne("F L", "0>0:1* 0>0:1* 0>0:1* 0>1:1");
            x.begin(0);
            Check.due("go", x.go(15, MIN | 1), 15);
            Check.edgesAre(x, 0, 6, 14, 1, 0, 0);
            x.begin(0);
            Check.due("go", x.go(16, MIN | 1), 16);
            Check.edgesAre(x, 0, 6, 28, 2, 1, 0);
            x.begin(0);
            Check.due("go", x.go(17, MIN | 1), 17);
            Check.edgesAre(x, 0, 6, 42, 4, 2, 0);
        });
        Check.sentence(14, "the k-th Fork of this call (from 0 on)", () -> {
            CounterPlacer x = ofOne("F L", "0>0:1* 0>0:1* 0>1:1");
            x.begin(0);
            for (int i = 0; i < 5; i++) {
                Check.due("go", x.go(1, 1), 1);
            }
            Check.edgesAre(x, 0, 6, 0, 5, 0);
            Check.due("go", x.go(5, 1), 5);
            Check.edgesAre(x, 0, 6, 4, 6, 0);
        });
        Check.sentence(14, "Forks count, other BLOCKS don't, whatever ROUTINE has them", () -> {
            CounterPlacer x = new CounterPlacer();
            Build.finished(x, "G F L L", "0>1:1 1>2:1 1>3:1");
            Build.finished(x, "C0 G F L L L", "0>1:1 1>2:1 2>3:1 2>4:1 2>5:1");
            x.begin(1);
            Check.due("go", x.go(6, 1 | 2 << 2), 6);
            Check.due("block", x.run(4), 5);
            Check.edgesAre(x, 0, 6, 1, 0, 1);
        });
    }

    private static void goAndCall() {
        Check.sentence(14, "Go: its EDGE is gone", () -> {
            CounterPlacer x = ofOne("G L", "0>1:1");
            x.begin(0);
            x.go(1, -1);
            Check.runIs(x, 1, 1, 1, 0, 1, 1);
            Check.edgesAre(x, 0, 6, 1);
        });
        Check.sentence(14, "Call: a FRAME for its ROUTINE comes, at BLOCK 0", () -> {
            CounterPlacer x = new CounterPlacer();
            Build.finished(x, "G L", "0>1:1");
            Build.finished(x, "C0 L", "0>1:1");
            x.begin(1);
            x.go(1, 0);
            Check.runIs(x, 1, 2, 1, 0, 0, 0);
            Check.due("entries", Check.look(x, 0, 6), 1);
            Check.blocksAre(x, 1, 8, 1, 0);
            Check.edgesAre(x, 1, 6, 0);
        });
        Check.sentence(14, "a Call of its own ROUTINE", () -> {
            CounterPlacer x = ofOne("F C0 L", "0>1:1 0>2:1 1>2:1");
            x.begin(0);
            Check.due("go", x.go(99, 1 << 4), 8);
            Check.runIs(x, 2, 0, 8);
            Check.due("entries", Check.look(x, 0, 6), 3);
            Check.edgesAre(x, 0, 6, 2, 1, 2);
        });
        Check.sentence(14, "a ROUTINE that is FINISHED just in time is called", () -> {
            CounterPlacer x = new CounterPlacer();
            Build.finished(x, "C1 L", "0>1:1");
            x.begin(0);
            Build.finished(x, "L", "");
            Check.due("go", x.go(9, 0), 3);
            Check.runIs(x, 2, 0, 3, -1, -1, 1);
        });
    }

    private static void leave() {
        Check.sentence(14, "Leave: the FRAME goes, and the Call below goes its EDGE within this STEP", () -> {
            CounterPlacer x = new CounterPlacer();
            Build.finished(x, "L", "");
            Build.finished(x, "C0 C0 L", "0>1:1 1>2:1");
            x.begin(1);
            Check.due("go", x.go(2, 0), 2);
            Check.runIs(x, 1, 1, 2, 1, 1, 0);
            Check.edgesAre(x, 1, 6, 1, 0);
            Check.due("go", x.go(99, 0), 3);
            Check.runIs(x, 2, 0, 5, -1, -1, 1);
            Check.due("nothing was stopped", Check.look(x, 1, 9), 0);
        });
        Check.sentence(14, "one FRAME a STEP: the one below has its own Leave", () -> {
            CounterPlacer x = new CounterPlacer();
            Build.finished(x, "L", "");
            Build.finished(x, "C0 L", "0>1:1");
            Build.finished(x, "C1 L", "0>1:1");
            x.begin(2);
            x.go(2, 0);
            Check.runIs(x, 1, 3, 2, 0, 0);
            x.go(1, 0);
            Check.runIs(x, 1, 2, 3, 1, 1);
            x.go(1, 0);
            Check.runIs(x, 1, 1, 4, 2, 1);
            x.go(1, 0);
            Check.runIs(x, 2, 0, 5, -1, -1);
        });
        Check.sentence(14, "the Call's EDGE may be a BACK one", () -> {
            CounterPlacer x = new CounterPlacer();
            Build.finished(x, "L", "");
            Build.finished(x, "F C0 L", "0>1:9 0>2:1 1>0:9*");
            x.begin(1);
            Check.due("go", x.go(99, 1 << 2), 5);
            Check.runIs(x, 2, 0, 5, -1, -1, 2);
            Check.due("way by the back edge", x.table(1, 0, 0), 0);
            Check.due("way from the head", x.table(1, 1, 0), 3);
        });
        Check.sentence(14, "without FRAMES the run is ENDED", () -> {
            CounterPlacer x = ofOne("L", "");
            x.begin(0);
            Check.due("go", x.go(9, 0), 1);
            Check.runIs(x, 2, 0, 1, -1, -1, 0);
            Check.blocksAre(x, 0, 7, 0);
            Check.blocksAre(x, 0, 8, 0);
        });
    }

    private static void stop() {
        Check.sentence(14, "Stop: all FRAMES go; the run is ENDED", () -> {
            CounterPlacer x = new CounterPlacer();
            Build.finished(x, "S", "");
            Build.finished(x, "C0 L", "0>1:1");
            x.begin(1);
            Check.due("go", x.go(9, 0), 2);
            Check.runIs(x, 3, 0, 2, -1, -1, 0);
            Check.blocksAre(x, 0, 8, 0);
            Check.blocksAre(x, 1, 8, 0, 0);
            Check.edgesAre(x, 1, 6, 0);
        });
        Check.sentence(14, "Stop: each leaves in the LOG that its BLOCK was STOPPED, one more", () -> {
            CounterPlacer x = ofOne("F C0 S", "0>1:1 0>2:1 1>2:1");
            for (int i = 1; i <= 2; i++) {
                x.begin(0);
                Check.due("go", x.go(99, 1 << 4), 6);
                Check.blocksAre(x, 0, 7, 0, 2 * i, i);
                Check.due("in all", Check.look(x, 0, 9), 3 * i);
            }
        });
        Check.sentence(14, "a Stop is a STEP of its own", () -> {
            CounterPlacer x = ofOne("G S", "0>1:1");
            x.begin(0);
            x.go(1, 0);
            Check.runIs(x, 1, 1, 1, 0, 1, 0);
            Check.blocksAre(x, 0, 7, 0, 0);
            x.go(1, 0);
            Check.runIs(x, 3, 0, 2, -1, -1, 0);
            Check.blocksAre(x, 0, 7, 0, 1);
        });
    }

    private static void stuck() {
        Check.sentence(14, "a Call of a ROUTINE that there isn't: STUCK (this is a STEP, too)", () -> {
            CounterPlacer x = ofOne("C7 L", "0>1:1");
            x.begin(0);
            Check.due("go", x.go(9, 0), 1);
            Check.runIs(x, 4, 0, 1, -1, -1, 0);
            Check.blocksAre(x, 0, 7, 1, 0);
            Check.edgesAre(x, 0, 6, 0);
        });
        Check.sentence(14, "a Call of a ROUTINE that isn't FINISHED: STUCK", () -> {
            CounterPlacer x = ofOne("G C1 L", "0>1:1 1>2:1");
            int open = Build.open(x, "L", "");
            x.begin(0);
            Check.due("go", x.go(9, 0), 2);
            Check.runIs(x, 4, 0, 2, -1, -1, 0);
            Check.blocksAre(x, 0, 7, 0, 1, 0);
            Check.due("entries", Check.look(x, open, 6), 0);
        });
        Check.sentence(14, "STUCK as by a Stop there: all FRAMES go, each STOPPED", () -> {
            CounterPlacer x = new CounterPlacer();
            Build.finished(x, "C7 L", "0>1:1");
            Build.finished(x, "C0 L", "0>1:1");
            x.begin(1);
            Check.due("go", x.go(9, 0), 2);
            Check.runIs(x, 4, 0, 2, -1, -1, 0);
            Check.blocksAre(x, 0, 7, 1, 0);
            Check.blocksAre(x, 1, 7, 1, 0);
            Check.due("no way ends", Check.look(x, 0, 8), 0);
            Check.due("no way ends", Check.look(x, 1, 8), 0);
        });
    }

    private static void mostFrames() {
        Check.sentence(14, "30 FRAMES there may be", () -> {
            CounterPlacer x = ofOne("F C0 L", "0>1:1 0>2:1 1>2:1");
            x.begin(0);
            Check.due("go", x.go(58, 0), 58);
            Check.runIs(x, 1, 30, 58, 0, 0);
            Check.blocksAre(x, 0, 8, 1, 29, 0);
            // the top one leaves, and the next calls no more
            Check.due("go", x.go(99, 1), 31);
            Check.runIs(x, 2, 0, 89);
            Check.due("nothing was stopped", Check.look(x, 0, 9), 0);
        });
        Check.sentence(14, "a Call with 30 FRAMES: STUCK (this is a STEP, too)", () -> {
            CounterPlacer x = ofOne("F C0 L", "0>1:1 0>2:1 1>2:1");
            x.begin(0);
            Check.due("go", x.go(59, 0), 59);
            Check.runIs(x, 1, 30, 59, 0, 1);
            Check.due("go", x.go(9, 0), 1);
            Check.runIs(x, 4, 0, 60, -1, -1, 0);
            Check.blocksAre(x, 0, 7, 0, 30, 0);
            Check.due("entries", Check.look(x, 0, 6), 30);
            Check.due("no way ends", Check.look(x, 0, 8), 0);
        });
        Check.sentence(14, "with 29 FRAMES again a Call goes on", () -> {
            CounterPlacer x = ofOne("F C0 C0 L", "0>1:1 0>3:1 1>2:1 2>3:1");
            x.begin(0);
            x.go(58, 0);
            x.go(2, 1);
            Check.runIs(x, 1, 29, 60, 0, 2);
            Check.due("go", x.go(1, 0), 1);
            Check.runIs(x, 1, 30, 61, 0, 0);
        });
    }

    private static void run() {
        Check.sentence(15, "0: how it stands (0 none, 1 under way, 2 ENDED by a Leave, 3 by a Stop, 4 STUCK)", () -> {
            CounterPlacer x = new CounterPlacer();
            Check.due("none", x.run(0), 0);
            int fork = Build.finished(x, "F L S C7 L", "0>1:1 0>2:1 0>3:1 3>4:1");
            Check.due("none yet", x.run(0), 0);
            for (int choice = 0; choice < 3; choice++) {
                x.begin(fork);
                Check.due("under way", x.run(0), 1);
                x.go(1, choice);
                Check.due("still under way", x.run(0), 1);
                x.go(1, 0);
                Check.due("ended", x.run(0), 2 + choice);
            }
        });
        Check.sentence(15, "1: FRAMES", () -> {
            CounterPlacer x = ofOne("C0 L", "0>1:1");
            Check.due("none", x.run(1), 0);
            x.begin(0);
            for (int frames = 1; frames < 30; frames++) {
                Check.due("frames", x.run(1), frames);
                x.go(1, 0);
            }
            Check.due("frames", x.run(1), 30);
            x.go(1, 0);
            Check.due("none", x.run(1), 0);
        });
        Check.sentence(15, "2: STEPS", () -> {
            CounterPlacer x = ofOne("F L", "0>0:1* 0>1:1");
            Check.due("at first", x.run(2), 0);
            x.begin(0);
            x.go(7, 0);
            x.go(10000, 0);
            x.go(10001, 0);
            Check.due("in all", x.run(2), 10007);
            x.go(9, 1);
            Check.due("when it is ended", x.run(2), 10009);
            x.begin(0);
            Check.due("anew", x.run(2), 0);
        });
        Check.sentence(15, "3: the top FRAME's ROUTINE, 4: its BLOCK (NONE without FRAMES)", () -> {
            CounterPlacer x = new CounterPlacer();
            Check.runIs(x, 0, 0, 0, -1, -1);
            Build.finished(x, "G L", "0>1:1");
            Build.finished(x, "G C0 L", "0>1:1 1>2:1");
            x.begin(1);
            int[][] due = {{1, 0}, {1, 1}, {0, 0}, {0, 1}, {1, 2}, {-1, -1}};
            for (int[] at : due) {
                Check.due("routine", x.run(3), at[0]);
                Check.due("block", x.run(4), at[1]);
                x.go(1, 0);
            }
        });
        Check.sentence(15, "5: its price: how many counts were made by COUNTERS", () -> {
            CounterPlacer x = new CounterPlacer();
            Build.finished(x, "G G L", "0>1:1 1>2:1");
            Build.finished(x, "C0 C0 L", "0>1:1 1>2:1");
            x.begin(1);
            // each time the second edge has the counter
            int[] due = {0, 0, 0, 1, 1, 1, 1, 2, 3, 3};
            for (int price : due) {
                Check.due("price", x.run(5), price);
                x.go(1, 0);
            }
            x.plan(0);
            x.plan(1);
            Check.due("a plan leaves the run's price", x.run(5), 3);
            x.begin(0);
            Check.due("anew", x.run(5), 0);
        });
        Check.sentence(15, "NONE for another what", () -> {
            CounterPlacer x = ofOne("F L", "0>0:1* 0>1:1");
            for (int i = 0; i < 3; i++) {
                for (int what : Check.outside(6)) {
                    Check.due("run(" + what + ")", x.run(what), -1);
                }
                x.begin(0);
                x.go(9, i);
            }
        });
    }
}
