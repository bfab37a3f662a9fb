/** Promises 8 to 10: look, ofEdge, ofBlock. */
public final class LookTest {
    public static void main(String[] args) {
        look();
        lookRefused();
        ofEdge();
        whereCountersStand();
        ofEdgeRefused();
        ofBlock();
        ofBlockRefused();
        Check.end("LookTest");
    }

    private static void lookIs(CounterPlacer x, int r, long... due) {
        for (int what = 0; what < due.length; what++) {
            Check.due("look(" + r + ", " + what + ")", Check.look(x, r, what), due[what]);
        }
    }

    private static CounterPlacer diamondThatRan() {
        CounterPlacer x = new CounterPlacer();
        int r = Build.finished(x, Build.DIAMOND, Build.DIAMOND_EDGES);
        x.begin(r);
        x.go(9, 0);
        x.begin(r);
        x.go(9, 1);
        x.begin(r);
        x.begin(r);
        return x;
    }

    private static void look() {
        Check.sentence(8, "of a ROUTINE, what 0 to 9", () -> lookIs(diamondThatRan(), 0, 4, 4, 1, 2, 15, 2, 4, 0, 2, 1));
        Check.sentence(8, "0: BLOCKS, 1: EDGES, of an empty and of a full one", () -> {
            CounterPlacer x = new CounterPlacer();
            int r = x.routine();
            lookIs(x, r, 0, 0, 0);
            for (int b = 0; b < 20; b++) {
                x.block(r, 1, 0);
            }
            for (int e = 0; e < 40; e++) {
                x.edge(r, e / 2, e / 2, 0, true);
            }
            lookIs(x, r, 20, 40, 0);
        });
        Check.sentence(8, "2: whether it is FINISHED (1, 0)", () -> {
            CounterPlacer x = new CounterPlacer();
            int r = Build.open(x, "G L", "");
            Check.due("at first", Check.look(x, r, 2), 0);
            x.finish(r);
            Check.due("not good", Check.look(x, r, 2), 0);
            x.edge(r, 0, 1, 0, false);
            x.finish(r);
            Check.due("good", Check.look(x, r, 2), 1);
        });
        Check.sentence(8, "4: the sum of their GUESSES as they were when it was planned", () -> {
            CounterPlacer x = new CounterPlacer();
            int r = Build.finished(x, "F L L L L", "0>1:1000000 0>2:1000000 0>3:1000000 0>4:999999");
            Check.due("when it was finished", Check.look(x, r, 4), 3999999);
            x.guess(r, 0, 0);
            Check.due("when a guess is another", Check.look(x, r, 4), 3999999);
            x.plan(r);
            Check.due("when it is planned", Check.look(x, r, 4), 2999999);
        });
        Check.sentence(8, "5: WAYS", () -> {
            CounterPlacer x = new CounterPlacer();
            Check.due("of a Leave alone", Check.look(x, Build.finished(x, "L", ""), 5), 1);
            Check.due("block 0 as a head, too", Check.look(x, Build.finished(x, "F L", "0>0:1* 0>1:1"), 5), 4);
        });
        Check.sentence(8, "6: ENTRIES: how often a FRAME came", () -> {
            CounterPlacer x = new CounterPlacer();
            int called = Build.finished(x, "L", "");
            int caller = Build.finished(x, "C0 C0 L", "0>1:1 1>2:1");
            Check.due("at first", Check.look(x, called, 6), 0);
            x.begin(caller);
            Check.due("of the caller", Check.look(x, caller, 6), 1);
            Check.due("ahead of the Call", Check.look(x, called, 6), 0);
            x.go(1, 0);
            Check.due("behind the Call", Check.look(x, called, 6), 1);
            x.go(9, 0);
            x.begin(called);
            Check.due("of the called", Check.look(x, called, 6), 3);
            Check.due("of the caller", Check.look(x, caller, 6), 1);
        });
        Check.sentence(8, "7: FELL OUT, 8: rows in its TABLE", () -> {
            CounterPlacer x = new CounterPlacer();
            int r = Build.eighteenWays(x);
            for (int i = 0; i < 18; i++) {
                Check.due("rows", Check.look(x, r, 8), Math.min(i, 16));
                Check.due("fell out", Check.look(x, r, 7), Math.max(i - 16, 0));
                Build.goWay(x, r, i);
            }
            Check.due("rows", Check.look(x, r, 8), 16);
            Check.due("fell out", Check.look(x, r, 7), 2);
        });
        Check.sentence(8, "9: STOPPED in all", () -> {
            CounterPlacer x = new CounterPlacer();
            int r = Build.finished(x, "F G S", "0>1:1 0>2:1 1>2:1");
            x.begin(r);
            x.go(1, 0);
            x.begin(r);
            x.go(2, 1);
            Check.due("of two blocks", Check.look(x, r, 9), 2);
            x.begin(r);
            Check.due("open ones aren't", Check.look(x, r, 9), 2);
        });
        Check.sentence(8, "3 to 9 are 0 if it isn't FINISHED", () -> {
            CounterPlacer x = new CounterPlacer();
            int r = Build.open(x, Build.DIAMOND, Build.DIAMOND_EDGES);
            lookIs(x, r, 4, 4, 0, 0, 0, 0, 0, 0, 0, 0);
            x.block(r, 0, 0);
            x.finish(r);
            lookIs(x, r, 5, 4, 0, 0, 0, 0, 0, 0, 0, 0);
            // a ring, which is found when ways are counted
            int ring = Build.open(x, "F L", "0>0:1 0>1:1");
            x.finish(ring);
            lookIs(x, ring, 2, 2, 0, 0, 0, 0, 0, 0, 0, 0);
        });
    }

    private static void lookRefused() {
        Check.sentence(8, "IndexOutOfBoundsException: no such ROUTINE", () -> {
            CounterPlacer x = diamondThatRan();
            for (int none : Check.outside(1)) {
                for (int what = 0; what < 10; what++) {
                    Check.due("look(" + none + ", " + what + ")", Check.look(x, none, what), Check.INDEX);
                }
            }
        });
        Check.sentence(8, "NoSuchElementException: no such what", () -> {
            CounterPlacer x = diamondThatRan();
            int open = x.routine();
            for (int what : Check.outside(10)) {
                Check.due("look(0, " + what + ")", Check.look(x, 0, what), Check.NO_ELEMENT);
                Check.due("of one that isn't finished", Check.look(x, open, what), Check.NO_ELEMENT);
                Check.due("of no routine either", Check.look(x, 2, what), Check.INDEX);
            }
        });
    }

    private static void ofEdge() {
        Check.sentence(9, "of an EDGE, what 0 to 9", () -> {
            CounterPlacer x = new CounterPlacer();
            int r = Build.finished(x, Build.DIAMOND, Build.DIAMOND_EDGES);
            x.begin(r);
            x.go(9, 1);
            x.begin(r);
            x.go(2, 1);
            long[] one = {0, 2, 5, 0, 0, -1, 2, 0, 1, 0};
            long[] three = {2, 3, 5, 0, 1, 1, 2, 2, 0, 1};
            for (int what = 0; what < 10; what++) {
                Check.due("ofEdge 1, " + what, Check.ofEdge(x, r, 1, what), one[what]);
                Check.due("ofEdge 3, " + what, Check.ofEdge(x, r, 3, what), three[what]);
            }
        });
        Check.sentence(9, "3: whether it is BACK", () -> {
            CounterPlacer x = new CounterPlacer();
            Check.edgesAre(x, Build.finished(x, "F L", "0>0:1* 0>1:1"), 3, 1, 0);
        });
        Check.sentence(9, "7: COUNTER (0 without)", () -> {
            CounterPlacer x = new CounterPlacer();
            int r = Build.finished(x, "G G L", "0>1:1 1>2:1");
            x.begin(r);
            x.go(9, 0);
            Check.edgesAre(x, r, 6, 1, 1);
            Check.edgesAre(x, r, 7, 0, 1);
        });
        Check.sentence(9, "8: ADD, of BACK ones, too; 9: LIGHT (0 of a BACK one)", () -> {
            CounterPlacer x = new CounterPlacer();
            int r = Build.finished(x, "F L L", "0>1:1 0>0:9* 0>2:1");
            Check.edgesAre(x, r, 8, 0, 1, 2);
            Check.edgesAre(x, r, 9, 0, 0, 0);
            int sides = Build.finished(x, "F L", "0>1:9 0>1:1* 0>1:1");
            Check.edgesAre(x, sides, 8, 0, 1, 2);
            Check.edgesAre(x, sides, 9, 0, 0, 2);
        });
        Check.sentence(9, "4, 6 to 9 are 0 if it isn't FINISHED; 5 is NONE then", () -> {
            CounterPlacer x = new CounterPlacer();
            int r = Build.open(x, "F G L G", "0>1:4 0>2:5 1>2:6");
            // refused as a block has too few edges, then as it isn't reached
            for (int fault = 2; fault <= 3; fault++) {
                Check.due("finish", x.finish(r), fault);
                for (int e = 0; e < 3; e++) {
                    Check.due("guess", Check.ofEdge(x, r, e, 2), 4 + e);
                    for (int what = 4; what < 10; what++) {
                        Check.due("ofEdge " + e + ", " + what, Check.ofEdge(x, r, e, what), what == 5 ? -1 : 0);
                    }
                }
                x.edge(r, 3, 2, 0, false);
            }
        });
    }

    private static void whereCountersStand() {
        Check.sentence(9, "5: 0 in a BLOCK of its own: from has others out, to has others in", () -> {
            CounterPlacer x = new CounterPlacer();
            Check.edgesAre(x, Build.finished(x, "F L", "0>1:5 0>1:5"), 5, 0, 0);
            Check.edgesAre(x, Build.finished(x, "F F L", "0>1:9 0>2:5 1>1:5* 1>2:5"), 5, -1, 0, 0, 0);
        });
        Check.sentence(9, "5: 1 at from's end: it has no others", () -> {
            CounterPlacer x = new CounterPlacer();
            // to has others in, or none, or END's
            Check.edgesAre(x, Build.finished(x, "F G L", "0>1:9 0>2:1 1>2:1"), 5, -1, 0, 1);
            Check.edgesAre(x, Build.finished(x, "G L", "0>1:5"), 5, 1);
            Check.edgesAre(x, Build.finished(x, "F G L", "0>1:5 0>2:5 1>0:0*"), 5, -1, 2, 1);
        });
        Check.sentence(9, "5: 2 at to's beginning", () -> {
            CounterPlacer x = new CounterPlacer();
            Check.edgesAre(x, Build.finished(x, "F L L", "0>1:5 0>2:5"), 5, 2, 2);
        });
        Check.sentence(9, "5: to's others in are END's, too", () -> {
            CounterPlacer x = new CounterPlacer();
            Check.edgesAre(x, Build.finished(x, "F L", "0>0:0* 0>1:5"), 5, 0, 2);
            Check.edgesAre(x, Build.finished(x, "G F L", "0>1:9 1>0:0* 1>2:5"), 5, -1, 0, 2);
            // END's and another one
            Check.edgesAre(x, Build.finished(x, "F L", "0>0:0* 0>0:0* 0>1:5"), 5, 0, 0, 2);
        });
        Check.sentence(9, "5 is NONE without a COUNTER", () -> {
            CounterPlacer x = new CounterPlacer();
            int r = Build.finished(x, "F G L", "0>1:5 0>2:5 1>2:4");
            Check.edgesAre(x, r, 5, -1, 0, 1);
            x.guess(r, 0, 3);
            x.plan(r);
            Check.edgesAre(x, r, 5, 2, 0, -1);
        });
    }

    private static void ofEdgeRefused() {
        Check.sentence(9, "IndexOutOfBoundsException: no such ROUTINE", () -> {
            CounterPlacer x = diamondThatRan();
            for (int none : Check.outside(1)) {
                Check.due("ofEdge(" + none + ", 0, 0)", Check.ofEdge(x, none, 0, 0), Check.INDEX);
            }
        });
        Check.sentence(9, "IndexOutOfBoundsException: no such EDGE", () -> {
            CounterPlacer x = diamondThatRan();
            int open = Build.open(x, "F L", "");
            for (int none : Check.outside(4)) {
                for (int what = 0; what < 10; what++) {
                    Check.due("ofEdge(0, " + none + ", " + what + ")", Check.ofEdge(x, 0, none, what), Check.INDEX);
                }
            }
            Check.due("of one without edges", Check.ofEdge(x, open, 0, 0), Check.INDEX);
            // END's edges stand behind the others inside the object
            Check.due("END's", Check.ofEdge(x, 0, 5, 0), Check.INDEX);
        });
        Check.sentence(9, "NoSuchElementException: no such what", () -> {
            CounterPlacer x = diamondThatRan();
            int open = Build.open(x, "F L", "0>1:1");
            for (int what : Check.outside(10)) {
                Check.due("ofEdge(0, 0, " + what + ")", Check.ofEdge(x, 0, 0, what), Check.NO_ELEMENT);
                Check.due("of one that isn't finished", Check.ofEdge(x, open, 0, what), Check.NO_ELEMENT);
                Check.due("of no edge either", Check.ofEdge(x, 0, 4, what), Check.INDEX);
            }
        });
    }

    private static void ofBlock() {
        Check.sentence(10, "of a BLOCK, what 0 to 8", () -> {
            CounterPlacer x = new CounterPlacer();
            int r = Build.finished(x, "G F C0 L", "0>1:1 1>2:9 1>3:1 2>1:9*");
            x.begin(r);
            x.go(1, 0);
            x.begin(r);
            x.go(5, 0);
            // the tree 0-1-2, 1-3: block 3 stands 1 behind block 1
            long[] one = {1, -1, 2, 2, 2, 2, 0, 1, 0};
            // it calls itself, so two frames stand in block 2
            long[] two = {2, 0, 1, 1, 1, -1, 0, 0, 2};
            long[] three = {3, -1, 0, 1, 1, -1, 1, 0, 0};
            for (int what = 0; what < 9; what++) {
                Check.due("ofBlock 1, " + what, Check.ofBlock(x, r, 1, what), one[what]);
                Check.due("ofBlock 2, " + what, Check.ofBlock(x, r, 2, what), two[what]);
                Check.due("ofBlock 3, " + what, Check.ofBlock(x, r, 3, what), three[what]);
            }
        });
        Check.sentence(10, "1: the ROUTINE that it calls (NONE)", () -> {
            CounterPlacer x = new CounterPlacer();
            Check.blocksAre(x, Build.open(x, "G F C0 C7 L S", ""), 1, -1, -1, 0, 7, -1, -1);
        });
        Check.sentence(10, "2: EDGES out, 3: EDGES in, without END's", () -> {
            CounterPlacer x = new CounterPlacer();
            int r = Build.open(x, "F L L", "0>1:1 0>0:1* 0>2:1 0>1:1");
            for (int i = 0; i < 2; i++) {
                Check.blocksAre(x, r, 2, 4, 0, 0);
                Check.blocksAre(x, r, 3, 1, 2, 1);
                x.finish(r);
            }
        });
        Check.sentence(10, "5: its BASE as a HEAD (NONE if it is none)", () -> {
            CounterPlacer x = new CounterPlacer();
            Check.blocksAre(x, Build.finished(x, "F L", "0>0:1* 0>1:1"), 5, 2, -1);
            Check.blocksAre(x, Build.finished(x, "F L", "0>1:1 0>1:1"), 5, -1, -1);
            // an end, too, is a head if a back edge goes there
            Check.blocksAre(x, Build.finished(x, "G L", "0>1:1*"), 5, -1, 1);
        });
        Check.sentence(10, "7: STOPPED, 8: OPEN", () -> {
            CounterPlacer x = new CounterPlacer();
            int r = Build.finished(x, "F C0 L", "0>1:1 0>2:1 1>2:1");
            x.begin(r);
            x.go(4, 0);
            Check.blocksAre(x, r, 8, 1, 2, 0);
            Check.blocksAre(x, r, 7, 0, 0, 0);
            x.begin(r);
            Check.blocksAre(x, r, 8, 1, 0, 0);
            Check.blocksAre(x, r, 7, 1, 2, 0);
        });
        Check.sentence(10, "8: OPEN, of this ROUTINE's FRAMES alone", () -> {
            CounterPlacer x = new CounterPlacer();
            int other = Build.finished(x, "G L", "0>1:1");
            int r = Build.finished(x, "C0 L", "0>1:1");
            x.begin(r);
            Check.blocksAre(x, other, 8, 0, 0);
            x.go(1, 0);
            Check.blocksAre(x, other, 8, 1, 0);
            Check.blocksAre(x, r, 8, 1, 0);
        });
        Check.sentence(10, "4, 6, 7, 8 are 0, 5 is NONE if it isn't FINISHED", () -> {
            CounterPlacer x = new CounterPlacer();
            int r = Build.open(x, "F F L", "0>1:1 0>2:1 1>1:1* 1>0:1");
            // a ring, which is found when ways are counted
            Check.due("finish", x.finish(r), 5);
            for (int b = 0; b < 3; b++) {
                for (int what = 4; what < 9; what++) {
                    Check.due("ofBlock " + b + ", " + what, Check.ofBlock(x, r, b, what), what == 5 ? -1 : 0);
                }
            }
        });
    }

    private static void ofBlockRefused() {
        Check.sentence(10, "IndexOutOfBoundsException: no such ROUTINE", () -> {
            CounterPlacer x = diamondThatRan();
            for (int none : Check.outside(1)) {
                Check.due("ofBlock(" + none + ", 0, 0)", Check.ofBlock(x, none, 0, 0), Check.INDEX);
            }
        });
        Check.sentence(10, "IndexOutOfBoundsException: no such BLOCK", () -> {
            CounterPlacer x = diamondThatRan();
            int open = x.routine();
            // block 4 would be END
            for (int none : Check.outside(4)) {
                for (int what = 0; what < 9; what++) {
                    Check.due("ofBlock(0, " + none + ", " + what + ")", Check.ofBlock(x, 0, none, what), Check.INDEX);
                }
            }
            Check.due("of one without blocks", Check.ofBlock(x, open, 0, 0), Check.INDEX);
        });
        Check.sentence(10, "NoSuchElementException: no such what", () -> {
            CounterPlacer x = diamondThatRan();
            int open = Build.open(x, "F L", "0>1:1");
            for (int what : Check.outside(9)) {
                Check.due("ofBlock(0, 0, " + what + ")", Check.ofBlock(x, 0, 0, what), Check.NO_ELEMENT);
                Check.due("of one that isn't finished", Check.ofBlock(x, open, 0, what), Check.NO_ELEMENT);
                Check.due("of no block either", Check.ofBlock(x, 0, 4, what), Check.INDEX);
            }
        });
    }
}
