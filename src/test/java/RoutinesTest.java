/** Promises 1 to 6: a new object, routine, block, edge, guess, finish. */
public final class RoutinesTest {
    private static final int MIN = Integer.MIN_VALUE;
    private static final int MAX = Integer.MAX_VALUE;

    public static void main(String[] args) {
        newObject();
        routines();
        blocks();
        edges();
        guesses();
        faults();
        faultsInOrder();
        finishedIsFixed();
        largestRoutine();
        Check.end("RoutinesTest");
    }

    private static void newObject() {
        CounterPlacer x = new CounterPlacer();
        Check.due("NONE", CounterPlacer.NONE, -1);
        for (int r : new int[] {0, 1, 7, 8, -1, MIN, MAX}) {
            Check.due("look at no routine", Check.look(x, r, 0), Check.INDEX);
            Check.due("finish of no routine", x.finish(r), -1);
            Check.due("begin of no routine", x.begin(r), false);
        }
        Check.due("run(0) at first", x.run(0), 0);
        Check.due("run(1) at first", x.run(1), 0);
        Check.due("run(2) at first", x.run(2), 0);
        Check.due("run(3) at first", x.run(3), -1);
        Check.due("run(4) at first", x.run(4), -1);
        Check.due("run(5) at first", x.run(5), 0);
        Check.due("go at first", x.go(1, 0), -1);
    }

    private static void routines() {
        CounterPlacer x = new CounterPlacer();
        for (int r = 0; r < 8; r++) {
            Check.due("routine()", x.routine(), r);
            Check.due("its blocks", Check.look(x, r, 0), 0);
            Check.due("its edges", Check.look(x, r, 1), 0);
            Check.due("finished", Check.look(x, r, 2), 0);
        }
        Check.due("ninth routine()", x.routine(), -1);
        Check.due("again", x.routine(), -1);
        Check.due("look at 8", Check.look(x, 8, 0), Check.INDEX);
    }

    private static void blocks() {
        CounterPlacer x = new CounterPlacer();
        Check.due("block of no routine", x.block(0, 0, 0), -1);
        x.routine();
        Check.due("block of no routine", x.block(1, 0, 0), -1);
        Check.due("block of routine -1", x.block(-1, 0, 0), -1);
        for (int kind : new int[] {-1, 5, MIN, MAX}) {
            Check.due("no such kind", x.block(0, kind, 0), -1);
        }
        for (int call : new int[] {-1, 8, MIN, MAX}) {
            Check.due("no such call", x.block(0, 2, call), -1);
        }
        Check.due("no block came", Check.look(x, 0, 0), 0);
        for (int kind = 0; kind < 5; kind++) {
            Check.due("block", x.block(0, kind, kind == 2 ? 7 : 99), kind);
            Check.due("its kind", Check.ofBlock(x, 0, kind, 0), kind);
            Check.due("its call", Check.ofBlock(x, 0, kind, 1), kind == 2 ? 7 : -1);
        }
        for (int b = 5; b < 20; b++) {
            Check.due("block", x.block(0, 2, 0), b);
        }
        Check.due("block 20", x.block(0, 0, 0), -1);
        Check.due("blocks", Check.look(x, 0, 0), 20);
    }

    private static void edges() {
        CounterPlacer x = new CounterPlacer();
        Check.due("edge of no routine", x.edge(0, 0, 0, 0, false), -1);
        int r = Build.open(x, "F G L S C0", "");
        Check.due("edge of no routine", x.edge(1, 0, 0, 0, false), -1);
        for (int b : new int[] {-1, 5, 20, MIN, MAX}) {
            Check.due("from no block", x.edge(r, b, 0, 0, false), -1);
            Check.due("to no block", x.edge(r, 0, b, 0, false), -1);
        }
        for (int guess : new int[] {-1, 1000001, MIN, MAX}) {
            Check.due("no such guess", x.edge(r, 0, 1, guess, false), -1);
        }
        Check.due("out of a Leave", x.edge(r, 2, 0, 0, false), -1);
        Check.due("out of a Stop", x.edge(r, 3, 0, 0, false), -1);
        Check.due("no edge came", Check.look(x, r, 1), 0);
        Check.due("edge", x.edge(r, 0, 0, 1000000, true), 0);
        Check.due("edge", x.edge(r, 1, 2, 0, false), 1);
        Check.due("edge", x.edge(r, 1, 3, 0, false), 2);
        Check.due("edge", x.edge(r, 1, 2, 0, false), 3);
        Check.due("fourth out of a Go", x.edge(r, 1, 2, 0, false), 4);
        Check.due("fifth out of a Go", x.edge(r, 1, 2, 0, false), -1);
        Check.due("from", Check.ofEdge(x, r, 2, 0), 1);
        Check.due("to", Check.ofEdge(x, r, 2, 1), 3);
        Check.due("guess", Check.ofEdge(x, r, 0, 2), 1000000);
        Check.due("back", Check.ofEdge(x, r, 0, 3), 1);
        Check.due("not back", Check.ofEdge(x, r, 1, 3), 0);
        Check.due("out of 1", Check.ofBlock(x, r, 1, 2), 4);
        Check.due("into 2", Check.ofBlock(x, r, 2, 3), 3);
        Check.due("into 0, END's not told", Check.ofBlock(x, r, 0, 3), 1);
        manyEdges();
    }

    private static void manyEdges() {
        CounterPlacer x = new CounterPlacer();
        int r = Build.open(x, "F F F F F F F F F F F L", "");
        for (int e = 0; e < 40; e++) {
            Check.due("edge", x.edge(r, e / 4, e / 4 + 1, e, false), e);
        }
        Check.due("edge 40", x.edge(r, 10, 11, 0, false), -1);
        Check.due("edges", Check.look(x, r, 1), 40);
    }

    private static void guesses() {
        CounterPlacer x = new CounterPlacer();
        Check.due("guess of no routine", x.guess(0, 0, 0), false);
        int r = Build.open(x, "F G L", "0>1:5 0>2:6 1>2:4");
        for (int e : new int[] {-1, 3, 40, MIN, MAX}) {
            Check.due("guess of no edge", x.guess(r, e, 0), false);
        }
        for (int guess : new int[] {-1, 1000001, MIN, MAX}) {
            Check.due("no such guess", x.guess(r, 0, guess), false);
        }
        Check.due("nothing happened", Check.ofEdge(x, r, 0, 2), 5);
        Check.due("guess", x.guess(r, 0, 1000000), true);
        Check.due("it is another one", Check.ofEdge(x, r, 0, 2), 1000000);
        Check.due("guess", x.guess(r, 0, 0), true);
        Check.due("finish", x.finish(r), 0);
        Check.due("edge 0 has the counter", Check.ofEdge(x, r, 0, 4), 1);
        Check.due("guess of a finished one", x.guess(r, 0, 900), true);
        Check.due("it is another one", Check.ofEdge(x, r, 0, 2), 900);
        Check.due("the plan stays", Check.ofEdge(x, r, 0, 4), 1);
        Check.due("its guesses stay", Check.look(x, r, 4), 6);
        Check.due("plan", x.plan(r), 2);
        Check.due("a new plan is by the new one", Check.ofEdge(x, r, 0, 4), 0);
    }

    private static void faultOf(int fault, String blocks, String edges) {
        CounterPlacer x = new CounterPlacer();
        int r = Build.open(x, blocks, edges);
        Check.due("finish of " + blocks + " / " + edges, x.finish(r), fault);
        Check.due("finished", Check.look(x, r, 2), fault == 0 ? 1 : 0);
    }

    private static void faults() {
        faultOf(1, "", "");
        faultOf(2, "G", "");
        faultOf(2, "G L", "0>1:0 0>1:0");
        faultOf(2, "C0 L", "0>1:0 0>1:0");
        faultOf(2, "F L", "0>1:0");
        faultOf(3, "L L", "");
        faultOf(3, "G L G", "0>1:0 2>1:0");
        faultOf(0, "F L G", "0>1:0 0>2:0* 2>1:0");
        faultOf(4, "G G", "0>1:0 1>0:0*");
        faultOf(4, "F L G", "0>1:0 0>2:0 2>2:0*");
        faultOf(5, "F L", "0>0:0 0>1:0");
        faultOf(5, "F F L", "0>1:0 0>2:0 1>0:0 1>2:0");
        faultOf(0, "F F L", "0>1:0 0>2:0 1>0:0* 1>2:0");
        faultOf(0, "L", "");
        faultOf(0, "S", "");
        faultOf(0, "F L S L L", "0>1:0 0>2:0 0>3:0 0>4:0");
        faultOf(0, "F L", "0>1:0 0>1:0 0>1:0");
        faultOf(0, "C7 L", "0>1:0");
    }

    private static void faultsInOrder() {
        // 2 ahead of 3, 3 ahead of 4, 4 ahead of 5
        faultOf(2, "G L G", "0>1:0");
        faultOf(3, "G G", "0>0:0* 1>1:0*");
        faultOf(4, "G", "0>0:0");
        CounterPlacer x = new CounterPlacer();
        int r = Build.open(x, "F L", "0>0:1");
        Check.due("finish", x.finish(r), 2);
        Check.due("more may come", x.edge(r, 0, 1, 1, false), 1);
        Check.due("finish", x.finish(r), 5);
        Check.due("finish again", x.finish(r), 5);
        for (int none : new int[] {-1, 1, 8, MIN, MAX}) {
            Check.due("finish of no routine", x.finish(none), -1);
        }
    }

    private static void finishedIsFixed() {
        CounterPlacer x = new CounterPlacer();
        int r = Build.finished(x, "F L L", "0>1:5 0>2:6");
        Check.due("finish again", x.finish(r), 0);
        Check.due("block", x.block(r, 0, 0), -1);
        Check.due("edge", x.edge(r, 0, 1, 0, false), -1);
        Check.due("blocks", Check.look(x, r, 0), 3);
        Check.due("edges", Check.look(x, r, 1), 2);
        x.begin(r);
        x.go(9, 0);
        Check.due("finish again", x.finish(r), 0);
        Check.due("counts are kept", Check.look(x, r, 6), 1);
    }

    private static void largestRoutine() {
        CounterPlacer x = new CounterPlacer();
        int r = Build.open(x, "F F F F F F F F F F F F F F F F F F F L", "");
        long ways = 1;
        for (int b = 18; b >= 0; b--) {
            int outs = b < 2 ? 3 : 2;
            for (int k = 0; k < outs; k++) {
                Check.due("edge", x.edge(r, b, b + 1, b, false) >= 0, true);
            }
            ways *= outs;
        }
        Check.due("edges", Check.look(x, r, 1), 40);
        Check.due("finish", x.finish(r), 0);
        Check.due("ways", Check.look(x, r, 5), ways);
        Check.due("counters", Check.look(x, r, 3), 40 - 18);
        Check.due("last way's first edge", x.along(r, ways - 1, 0), 39);
        Check.due("last way's last block", x.way(r, ways - 1, 19), 19);
        Check.due("no way behind it", x.way(r, ways, 0), -1);
    }
}
