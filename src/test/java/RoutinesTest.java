/** Promises 1 to 6, with Terms 1: a new object, routine, block, edge, guess, finish. */
public final class RoutinesTest {
    private static final int MOST_GUESS = 1000000;

    public static void main(String[] args) {
        newObject();
        routine();
        block();
        blockRefused();
        edge();
        edgeRefused();
        guess();
        finish();
        goodByEach();
        goodByTheFirst();
        Check.end("RoutinesTest");
    }

    private static void newObject() {
        Check.sentence(1, "No ROUTINES", RoutinesTest::noRoutines);
        Check.sentence(1, "no run", () -> {
            CounterPlacer x = new CounterPlacer();
            Check.runIs(x, 0, 0, 0, -1, -1, 0);
            Check.due("go(1, 0)", x.go(1, 0), -1);
        });
        Check.sentence(1, "a new object, beside one that is in use", () -> {
            CounterPlacer used = new CounterPlacer();
            used.begin(Build.finished(used, "G L", "0>1:1"));
            noRoutines();
            Check.runIs(new CounterPlacer(), 0, 0, 0, -1, -1, 0);
            Check.runIs(used, 1, 1, 0, 0, 0, 0);
        });
    }

    private static void noRoutines() {
        for (int r : new int[] {0, 1, 7, 8, -1, Integer.MIN_VALUE, Integer.MAX_VALUE}) {
            CounterPlacer x = new CounterPlacer();
            Check.due("block", x.block(r, 0, 0), -1);
            Check.due("edge", x.edge(r, 0, 0, 0, false), -1);
            Check.due("guess", x.guess(r, 0, 0), false);
            Check.due("finish", x.finish(r), -1);
            Check.due("plan", x.plan(r), -1);
            Check.due("look", Check.look(x, r, 0), Check.INDEX);
            Check.due("ofEdge", Check.ofEdge(x, r, 0, 0), Check.INDEX);
            Check.due("ofBlock", Check.ofBlock(x, r, 0, 0), Check.INDEX);
            Check.due("solve", x.solve(r, 0), -1);
            Check.due("ring", x.ring(r, 0, 0), -1);
            Check.due("begin", x.begin(r), false);
            Check.due("way", x.way(r, 0, 0), -1);
            Check.due("along", x.along(r, 0, 0), -1);
            Check.due("table", x.table(r, 0, 0), -1);
            Check.due("told", x.told(r, 0), -1);
            Check.due("blur", x.blur(r, 0, 0), false);
            Check.due("mend", x.mend(r), -1);
        }
    }

    private static void routine() {
        Check.sentence(2, "its number; numbered from 0 on as they come", () -> {
            CounterPlacer x = new CounterPlacer();
            for (int r = 0; r < 8; r++) {
                Check.due("look ahead of it", Check.look(x, r, 0), Check.INDEX);
                Check.due("routine()", x.routine(), r);
                Check.due("its blocks", Check.look(x, r, 0), 0);
                Check.due("its edges", Check.look(x, r, 1), 0);
                Check.due("finished", Check.look(x, r, 2), 0);
            }
        });
        Check.sentence(2, "NONE: there are 8", () -> {
            CounterPlacer x = new CounterPlacer();
            for (int r = 0; r < 8; r++) {
                x.routine();
                x.block(r, 3, 0);
            }
            for (int i = 0; i < 3; i++) {
                Check.due("one more", x.routine(), -1);
            }
            Check.due("there is no ninth", Check.look(x, 8, 0), Check.INDEX);
            for (int r = 0; r < 8; r++) {
                Check.due("the others stay", Check.look(x, r, 0), 1);
            }
        });
        Check.sentence(2, "a ROUTINE comes, whatever runs", () -> {
            CounterPlacer x = new CounterPlacer();
            x.begin(Build.finished(x, "G L", "0>1:1"));
            Check.due("routine()", x.routine(), 1);
            Check.runIs(x, 1, 1, 0, 0, 0, 0);
        });
    }

    private static void block() {
        Check.sentence(3, "its number; at most 20 BLOCKS, numbered from 0 on in each ROUTINE", () -> {
            CounterPlacer x = new CounterPlacer();
            x.routine();
            x.routine();
            for (int b = 0; b < 20; b++) {
                Check.due("block of 0", x.block(0, 0, 0), b);
                Check.due("block of 1", x.block(1, 3, 0), b);
            }
        });
        Check.sentence(3, "a BLOCK of a KIND: 0 to 4", () -> {
            CounterPlacer x = new CounterPlacer();
            x.routine();
            for (int kind = 0; kind < 5; kind++) {
                Check.due("block", x.block(0, kind, 0), kind);
            }
            Check.blocksAre(x, 0, 0, 0, 1, 2, 3, 4);
            Check.blocksAre(x, 0, 2, 0, 0, 0, 0, 0);
            Check.blocksAre(x, 0, 3, 0, 0, 0, 0, 0);
        });
        Check.sentence(3, "of a Call, call is the ROUTINE that it calls (0 .. 7, perhaps none such yet)", () -> {
            CounterPlacer x = new CounterPlacer();
            x.routine();
            for (int call = 0; call < 8; call++) {
                Check.due("block", x.block(0, 2, call), call);
            }
            Check.blocksAre(x, 0, 1, 0, 1, 2, 3, 4, 5, 6, 7);
        });
        Check.sentence(3, "else it is not looked at", () -> {
            CounterPlacer x = new CounterPlacer();
            x.routine();
            int came = 0;
            for (int kind : new int[] {0, 1, 3, 4}) {
                for (int call : new int[] {-1, 8, Integer.MIN_VALUE, Integer.MAX_VALUE, 3}) {
                    Check.due("block", x.block(0, kind, call), came);
                    Check.due("its call", Check.ofBlock(x, 0, came, 1), -1);
                    came++;
                }
            }
        });
    }

    private static void blockRefused() {
        Check.sentence(3, "NONE: no such ROUTINE", () -> {
            CounterPlacer x = new CounterPlacer();
            x.routine();
            for (int r : Check.outside(1)) {
                Check.due("block(" + r + ")", x.block(r, 0, 0), -1);
            }
            Check.due("no block came", Check.look(x, 0, 0), 0);
        });
        Check.sentence(3, "NONE: it is FINISHED", () -> {
            CounterPlacer x = new CounterPlacer();
            int r = Build.open(x, "G L", "");
            Check.due("finish", x.finish(r), 2);
            Check.due("block ahead of that", x.block(r, 3, 0), 2);
            int done = Build.finished(x, "L", "");
            Check.due("block behind that", x.block(done, 3, 0), -1);
            Check.due("blocks", Check.look(x, done, 0), 1);
        });
        Check.sentence(3, "NONE: it has 20", () -> {
            CounterPlacer x = new CounterPlacer();
            int r = Build.open(x, Build.many(19, "G", "L"), "");
            for (int kind = 0; kind < 5; kind++) {
                Check.due("block 20", x.block(r, kind, 0), -1);
            }
            Check.due("blocks", Check.look(x, r, 0), 20);
            Check.due("no block 20", Check.ofBlock(x, r, 20, 0), Check.INDEX);
            Check.due("the last stays", Check.ofBlock(x, r, 19, 0), 3);
        });
        Check.sentence(3, "NONE: no such KIND", () -> {
            CounterPlacer x = new CounterPlacer();
            x.routine();
            for (int kind : Check.outside(5)) {
                Check.due("block of kind " + kind, x.block(0, kind, 0), -1);
            }
            Check.due("no block came", Check.look(x, 0, 0), 0);
        });
        Check.sentence(3, "NONE: no such call", () -> {
            CounterPlacer x = new CounterPlacer();
            x.routine();
            for (int call : Check.outside(8)) {
                Check.due("a Call of " + call, x.block(0, 2, call), -1);
            }
            Check.due("no block came", Check.look(x, 0, 0), 0);
        });
    }

    private static void edge() {
        Check.sentence(4, "its number; at most 40 EDGES, numbered from 0 on in each ROUTINE", () -> {
            CounterPlacer x = new CounterPlacer();
            Build.open(x, Build.many(10, "F", "L"), "");
            Build.open(x, Build.many(10, "F", "L"), "");
            for (int e = 0; e < 40; e++) {
                Check.due("edge of 0", x.edge(0, e / 4, e / 4 + 1, e, false), e);
                Check.due("edge of 1", x.edge(1, e / 4, e / 4 + 1, e, false), e);
            }
        });
        Check.sentence(4, "an EDGE goes from a BLOCK to a BLOCK of its ROUTINE (perhaps the same)", () -> {
            CounterPlacer x = new CounterPlacer();
            int r = Build.open(x, "F L S", "");
            Check.due("to the same", x.edge(r, 0, 0, 1, true), 0);
            Check.due("to a Leave", x.edge(r, 0, 1, 2, false), 1);
            Check.due("to a Stop", x.edge(r, 0, 2, 3, false), 2);
            Check.edgesAre(x, r, 0, 0, 0, 0);
            Check.edgesAre(x, r, 1, 0, 1, 2);
            Check.blocksAre(x, r, 2, 3, 0, 0);
            Check.blocksAre(x, r, 3, 1, 1, 1);
        });
        Check.sentence(4, "has a GUESS, 0 .. 1000000", () -> {
            CounterPlacer x = new CounterPlacer();
            int r = Build.open(x, "F L", "");
            Check.due("the least", x.edge(r, 0, 1, 0, false), 0);
            Check.due("the greatest", x.edge(r, 0, 1, MOST_GUESS, false), 1);
            Check.edgesAre(x, r, 2, 0, MOST_GUESS);
        });
        Check.sentence(4, "may be a BACK one", () -> {
            CounterPlacer x = new CounterPlacer();
            int r = Build.open(x, "F L", "0>1:0* 0>1:0");
            Check.edgesAre(x, r, 3, 1, 0);
        });
        Check.sentence(4, "those out of a BLOCK are in order as they came", () -> {
            CounterPlacer x = new CounterPlacer();
            // as edges of another block come between them
            int r = Build.finished(x, "F F L", "1>2:0 0>2:0 1>2:0 0>1:0 1>2:0");
            Check.edgesAre(x, r, 8, 0, 0, 1, 1, 2);
            Check.due("the first out of block 0", x.along(r, 0, 0), 1);
            Check.due("the second", x.along(r, 1, 0), 3);
        });
    }

    private static void edgeRefused() {
        Check.sentence(4, "NONE: no such ROUTINE", () -> {
            CounterPlacer x = new CounterPlacer();
            int r = Build.open(x, "F L", "");
            for (int none : Check.outside(1)) {
                Check.due("edge(" + none + ")", x.edge(none, 0, 1, 0, false), -1);
            }
            Check.due("no edge came", Check.look(x, r, 1), 0);
        });
        Check.sentence(4, "NONE: it is FINISHED", () -> {
            CounterPlacer x = new CounterPlacer();
            int r = Build.finished(x, "F L", "0>1:0 0>1:0");
            Check.due("edge", x.edge(r, 0, 1, 0, false), -1);
            Check.due("edges", Check.look(x, r, 1), 2);
            Check.due("out of block 0", Check.ofBlock(x, r, 0, 2), 2);
        });
        Check.sentence(4, "NONE: it has 40", () -> {
            CounterPlacer x = new CounterPlacer();
            int r = Build.open(x, Build.many(11, "F", "L"), "");
            for (int e = 0; e < 40; e++) {
                x.edge(r, e / 4, e / 4 + 1, e, false);
            }
            Check.due("edge 40", x.edge(r, 10, 11, 0, false), -1);
            Check.due("edges", Check.look(x, r, 1), 40);
            Check.due("no edge 40", Check.ofEdge(x, r, 40, 0), Check.INDEX);
            Check.due("out of block 10", Check.ofBlock(x, r, 10, 2), 0);
            Check.due("into block 11", Check.ofBlock(x, r, 11, 3), 0);
        });
        Check.sentence(4, "NONE: no such BLOCKS", () -> {
            CounterPlacer x = new CounterPlacer();
            int r = Build.open(x, "F L", "");
            Build.open(x, "F F F F L", "");
            for (int none : Check.outside(2)) {
                Check.due("from " + none, x.edge(r, none, 1, 0, false), -1);
                Check.due("to " + none, x.edge(r, 0, none, 0, false), -1);
            }
            Check.due("no edge came", Check.look(x, r, 1), 0);
            Check.due("out of block 0", Check.ofBlock(x, r, 0, 2), 0);
            x.routine();
            Check.due("of a routine without blocks", x.edge(2, 0, 0, 0, false), -1);
        });
        Check.sentence(4, "NONE: no such GUESS", () -> {
            CounterPlacer x = new CounterPlacer();
            int r = Build.open(x, "F L", "");
            for (int guess : Check.outside(MOST_GUESS + 1)) {
                Check.due("guess " + guess, x.edge(r, 0, 1, guess, false), -1);
            }
            Check.due("no edge came", Check.look(x, r, 1), 0);
        });
        Check.sentence(4, "NONE: the BLOCK is a Leave", () -> refusedFrom("F L S", 1));
        Check.sentence(4, "NONE: the BLOCK is a Stop", () -> refusedFrom("F L S", 2));
        Check.sentence(4, "NONE: the BLOCK has four", () -> {
            for (String first : new String[] {"F", "G", "C0"}) {
                CounterPlacer x = new CounterPlacer();
                int r = Build.open(x, first + " F L", "");
                for (int e = 0; e < 4; e++) {
                    Check.due("edge out of " + first, x.edge(r, 0, 2, 0, false), e);
                }
                Check.due("a fifth", x.edge(r, 0, 2, 0, false), -1);
                Check.due("a fifth to another", x.edge(r, 0, 1, 0, true), -1);
                Check.due("out", Check.ofBlock(x, r, 0, 2), 4);
                Check.due("in", Check.ofBlock(x, r, 2, 3), 4);
                Check.due("out of another", x.edge(r, 1, 2, 0, false), 4);
            }
        });
    }

    private static void refusedFrom(String blocks, int from) {
        CounterPlacer x = new CounterPlacer();
        int r = Build.open(x, blocks, "");
        Check.due("edge", x.edge(r, from, 0, 0, false), -1);
        Check.due("a back one", x.edge(r, from, from, 0, true), -1);
        Check.due("no edge came", Check.look(x, r, 1), 0);
        Check.due("out", Check.ofBlock(x, r, from, 2), 0);
        Check.due("in", Check.ofBlock(x, r, 0, 3), 0);
    }

    private static void guess() {
        Check.sentence(5, "the GUESS of an EDGE is another one: true (0 .. 1000000)", () -> {
            CounterPlacer x = new CounterPlacer();
            int r = Build.open(x, "F L", "0>1:5 0>1:6");
            for (int guess : new int[] {MOST_GUESS, 0, 7}) {
                Check.due("guess", x.guess(r, 0, guess), true);
                Check.edgesAre(x, r, 2, guess, 6);
                Check.due("guess of the last", x.guess(r, 1, guess), true);
                Check.edgesAre(x, r, 2, guess, guess);
                x.guess(r, 1, 6);
            }
        });
        Check.sentence(5, "nothing of a FINISHED one is changed but GUESSES", () -> {
            CounterPlacer x = new CounterPlacer();
            int r = Build.finished(x, "F L", "0>1:5 0>1:6");
            Check.due("guess", x.guess(r, 1, 9), true);
            Check.edgesAre(x, r, 2, 5, 9);
            x.begin(r);
            Check.due("guess in a run", x.guess(r, 1, 8), true);
            Check.edgesAre(x, r, 2, 5, 8);
        });
        Check.sentence(5, "false, and nothing happens: no such EDGE", () -> {
            CounterPlacer x = new CounterPlacer();
            int r = Build.open(x, "F L", "0>1:5 0>1:6");
            for (int none : Check.outside(2)) {
                Check.due("guess of edge " + none, x.guess(r, none, 1), false);
            }
            for (int none : Check.outside(1)) {
                Check.due("guess of routine " + none, x.guess(none, 0, 1), false);
            }
            Check.edgesAre(x, r, 2, 5, 6);
        });
        Check.sentence(5, "false, and nothing happens: no such GUESS", () -> {
            CounterPlacer x = new CounterPlacer();
            int r = Build.open(x, "F L", "0>1:5 0>1:6");
            for (int guess : Check.outside(MOST_GUESS + 1)) {
                Check.due("guess " + guess, x.guess(r, 0, guess), false);
            }
            Check.edgesAre(x, r, 2, 5, 6);
        });
        Check.sentence(5, "(PLANS stay.)", () -> {
            CounterPlacer x = new CounterPlacer();
            int r = Build.finished(x, Build.DIAMOND, Build.DIAMOND_EDGES);
            x.guess(r, 3, 20);
            Check.edgesAre(x, r, 4, 0, 0, 1, 1);
            Check.edgesAre(x, r, 9, 0, 0, 0, 1);
            Check.blocksAre(x, r, 6, 0, 0, 1, 0);
            Check.due("finish again", x.finish(r), 0);
            Check.edgesAre(x, r, 4, 0, 0, 1, 1);
            Check.due("the sum of guesses", Check.look(x, r, 4), 15);
        });
    }

    private static void finish() {
        Check.sentence(6, "it is FINISHED, and has its PLAN: 0", () -> {
            CounterPlacer x = new CounterPlacer();
            int r = Build.open(x, Build.DIAMOND, Build.DIAMOND_EDGES);
            Check.due("not finished", Check.look(x, r, 2), 0);
            Check.due("finish", x.finish(r), 0);
            Check.due("finished", Check.look(x, r, 2), 1);
            Check.edgesAre(x, r, 4, 0, 0, 1, 1);
        });
        Check.sentence(6, "0 also if it was so ahead", () -> {
            CounterPlacer x = new CounterPlacer();
            int r = Build.finished(x, "F L L", "0>1:5 0>2:6");
            x.begin(r);
            x.go(9, 0);
            Check.due("finish again", x.finish(r), 0);
            Check.due("entries are kept", Check.look(x, r, 6), 1);
            Check.due("true counts are kept", Check.ofEdge(x, r, 0, 6), 1);
            Check.due("rows are kept", Check.look(x, r, 8), 1);
            x.begin(r);
            Check.due("finish in a run", x.finish(r), 0);
            Check.runIs(x, 1, 1, 0, r, 0, 0);
        });
        Check.sentence(6, "NONE: no such ROUTINE", () -> {
            CounterPlacer x = new CounterPlacer();
            Build.open(x, "L", "");
            for (int none : Check.outside(1)) {
                Check.due("finish(" + none + ")", x.finish(none), -1);
            }
        });
        Check.sentence(6, "1 .. 6 why it isn't GOOD: then it isn't FINISHED, and may be changed", () -> {
            CounterPlacer x = new CounterPlacer();
            int r = x.routine();
            Check.due("without blocks", x.finish(r), 1);
            x.block(r, 1, 0);
            Check.due("a Fork alone", x.finish(r), 2);
            x.block(r, 0, 0);
            x.edge(r, 0, 0, 1, true);
            x.edge(r, 0, 0, 1, true);
            x.edge(r, 1, 0, 1, false);
            Check.due("block 1 isn't reached", x.finish(r), 3);
            x.edge(r, 0, 1, 1, false);
            Check.due("nothing ends", x.finish(r), 4);
            x.block(r, 3, 0);
            Check.due("the Leave isn't reached", x.finish(r), 3);
            x.edge(r, 0, 2, 1, false);
            Check.due("a ring", x.finish(r), 5);
            Check.due("again", x.finish(r), 5);
            Check.due("finished", Check.look(x, r, 2), 0);
            Check.due("begin", x.begin(r), false);
        });
        Check.sentence(6, "nothing of it is changed then but GUESSES", () -> {
            CounterPlacer x = new CounterPlacer();
            int r = Build.finished(x, "F L L", "0>1:5 0>2:6");
            Check.due("block", x.block(r, 3, 0), -1);
            Check.due("edge", x.edge(r, 0, 1, 0, false), -1);
            Check.due("guess", x.guess(r, 0, 7), true);
            Check.due("blocks", Check.look(x, r, 0), 3);
            Check.due("edges", Check.look(x, r, 1), 2);
            Check.edgesAre(x, r, 2, 7, 6);
        });
    }

    private static void faultIs(int fault, String blocks, String edges) {
        CounterPlacer x = new CounterPlacer();
        int r = Build.open(x, blocks, edges);
        Check.due("finish of " + blocks + " / " + edges, x.finish(r), fault);
        Check.due("finished", Check.look(x, r, 2), fault == 0 ? 1 : 0);
    }

    private static void goodByEach() {
        Check.sentence(6, "1 it has a BLOCK", () -> {
            faultIs(1, "", "");
            faultIs(0, "L", "");
            faultIs(0, "S", "");
        });
        Check.sentence(6, "2 as many EDGES out as its KIND wants: a Go has one", () -> {
            faultIs(2, "G", "");
            faultIs(0, "G L", "0>1:0");
            faultIs(2, "G L", "0>1:0 0>1:0");
            faultIs(2, "G L", "0>1:0 0>1:0 0>1:0 0>1:0");
        });
        Check.sentence(6, "2 as many EDGES out as its KIND wants: a Fork has two to four", () -> {
            faultIs(2, "F", "");
            faultIs(2, "F L", "0>1:0");
            faultIs(0, "F L", "0>1:0 0>1:0");
            faultIs(0, "F L", "0>1:0 0>1:0 0>1:0");
            faultIs(0, "F L S L L", "0>1:0 0>2:0 0>3:0 0>4:0");
        });
        Check.sentence(6, "2 as many EDGES out as its KIND wants: a Call has one", () -> {
            faultIs(2, "C0", "");
            faultIs(0, "C0 L", "0>1:0");
            faultIs(0, "C7 L", "0>1:0");
            faultIs(2, "C0 L", "0>1:0 0>1:0");
        });
        Check.sentence(6, "2 each BLOCK: the last, too", () -> {
            faultIs(2, "F L G", "0>1:0 0>2:0");
            faultIs(2, "F L F", "0>1:0 0>2:0 2>1:0");
            faultIs(0, "F L F", "0>1:0 0>2:0 2>1:0 2>1:0");
        });
        Check.sentence(6, "3 each is reached from BLOCK 0", RoutinesTest::reached);
        Check.sentence(6, "4 from each a Leave or a Stop is reached", RoutinesTest::ending);
        Check.sentence(6, "5 without the BACK EDGES there is no ring", RoutinesTest::ringless);
        Check.sentence(6, "6 its WAYS are not more than 10^12", RoutinesTest::mostWays);
    }

    private static void reached() {
        faultIs(3, "L L", "");
        faultIs(3, "S S", "");
        faultIs(3, "G L G", "0>1:0 2>1:0");
        // reached from others than block 0, and from itself
        faultIs(3, "G L G G", "0>1:0 2>3:0 3>1:0");
        faultIs(3, "G L F", "0>1:0 2>2:0* 2>1:0");
        // a back edge reaches it, too
        faultIs(0, "F L G", "0>1:0 0>2:0* 2>1:0");
        // far off, by edges that came in either order
        faultIs(0, Build.many(19, "G", "L"), chain(false, 19));
        faultIs(0, Build.many(19, "G", "L"), chain(true, 19));
        faultIs(3, Build.many(18, "G", "L L"), chain(true, 18));
    }

    private static void ending() {
        faultIs(4, "G G", "0>1:0 1>0:0*");
        faultIs(4, "F L G", "0>1:0 0>2:0 2>2:0*");
        faultIs(4, "F S G", "0>1:0 0>2:0 2>2:0*");
        faultIs(0, "F S G", "0>1:0 0>2:0 2>1:0");
        faultIs(0, "F L G", "0>1:0 0>2:0 2>1:0");
        // an end that only a back edge reaches
        faultIs(0, "G L", "0>1:0*");
        faultIs(0, "F L G", "0>1:0 0>2:0 2>0:0*");
        // far off
        faultIs(4, Build.many(20, "G", ""), chain(true, 19) + " 19>19:0*");
        faultIs(4, Build.many(18, "F", "G L"),
                "0>19:0 0>1:0 " + forksOn(1, 18) + "18>18:0*");
    }

    private static void ringless() {
        faultIs(5, "F L", "0>0:0 0>1:0");
        faultIs(0, "F L", "0>0:0* 0>1:0");
        faultIs(5, "F F L", "0>1:0 0>2:0 1>0:0 1>2:0");
        faultIs(0, "F F L", "0>1:0 0>2:0 1>0:0* 1>2:0");
        faultIs(0, "F F L", "0>1:0* 0>2:0 1>0:0 1>2:0");
        // one that isn't through block 0
        faultIs(5, "G F G L", "0>1:0 1>2:0 1>3:0 2>1:0");
        faultIs(0, "G F G L", "0>1:0 1>2:0 1>3:0 2>1:0*");
        // two edges side by side are none
        faultIs(0, "F L", "0>1:0 0>1:0");
        // through all blocks but the Leave
        StringBuilder edges = new StringBuilder();
        for (int b = 0; b < 18; b++) {
            edges.append(b).append('>').append(b + 1).append(":0 ").append(b).append(">19:0 ");
        }
        edges.append("18>19:0 18>0:0");
        faultIs(5, Build.many(19, "F", "L"), edges.toString());
        faultIs(0, Build.many(19, "F", "L"), edges + "*");
    }

    /** Forty edges make two million ways at most, so that 10^12 is never reached, and 6 never answered. */
    private static void mostWays() {
        CounterPlacer x = new CounterPlacer();
        int r = Build.open(x, Build.many(13, "F", "L"), "");
        for (int b = 0; b < 13; b++) {
            for (int k = 0; k < (b == 0 ? 4 : 3); k++) {
                x.edge(r, b, b + 1, 0, false);
            }
        }
        long ways = 4 * 531441;
        Check.due("edges", Check.look(x, r, 1), 40);
        Check.due("finish", x.finish(r), 0);
        Check.due("ways", Check.look(x, r, 5), ways);
        Check.due("the last way's first edge", x.along(r, ways - 1, 0), 3);
        Check.due("the last way's last block", x.way(r, ways - 1, 13), 13);
        Check.due("no way behind it", x.way(r, ways, 0), -1);
    }

    private static String chain(boolean lastFirst, int edges) {
        StringBuilder text = new StringBuilder();
        for (int i = 0; i < edges; i++) {
            int b = lastFirst ? edges - 1 - i : i;
            text.append(b).append('>').append(b + 1).append(":0 ");
        }
        return text.toString();
    }

    /** Forks that go on to the next block by both their edges. */
    private static String forksOn(int first, int behind) {
        StringBuilder text = new StringBuilder();
        for (int b = first; b < behind; b++) {
            text.append((b + ">" + (b + 1) + ":0 ").repeat(2));
        }
        return text.toString();
    }

    private static void goodByTheFirst() {
        Check.sentence(6, "by the first of these: 2 ahead of 3", () -> faultIs(2, "G L G", "0>1:0"));
        Check.sentence(6, "by the first of these: 2 ahead of 4", () -> faultIs(2, "G F", "0>0:0* 1>0:0"));
        Check.sentence(6, "by the first of these: 2 ahead of 5", () -> faultIs(2, "F L", "0>0:0"));
        Check.sentence(6, "by the first of these: 3 ahead of 4", () -> faultIs(3, "G G", "0>0:0* 1>1:0*"));
        Check.sentence(6, "by the first of these: 3 ahead of 5", () -> faultIs(3, "G L F", "0>1:0 2>2:0 2>1:0"));
        Check.sentence(6, "by the first of these: 4 ahead of 5", () -> faultIs(4, "G", "0>0:0"));
    }
}
