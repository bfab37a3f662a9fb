/** Promises 13 to 15: begin, go, run. */
public final class RunsTest {
    private static final int MIN = Integer.MIN_VALUE;
    private static final int MAX = Integer.MAX_VALUE;

    public static void main(String[] args) {
        beginning();
        beginningAnew();
        wrongGo();
        choices();
        calls();
        leavingByBackEdge();
        stops();
        stuckByRoutine();
        stuckByFrames();
        longRun();
        asked();
        Check.end("RunsTest");
    }

    /** How the run stands, frames, steps, top routine, its block, price. */
    private static void stands(String where, CounterPlacer x, int... due) {
        for (int what = 0; what < due.length; what++) {
            Check.due(where + ": run(" + what + ")", x.run(what), due[what]);
        }
    }

    private static void beginning() {
        CounterPlacer x = new CounterPlacer();
        int r = Build.open(x, "F L L", "0>1:1 0>2:1");
        Check.due("begin of one not finished", x.begin(r), false);
        stands("no run", x, 0, 0, 0, -1, -1, 0);
        x.finish(r);
        Check.due("begin", x.begin(r), true);
        stands("begun", x, 1, 1, 0, 0, 0, 0);
        Check.due("entries", Check.look(x, r, 6), 1);
        Check.due("open", Check.ofBlock(x, r, 0, 8), 1);
        x.go(1, 0);
        for (int none : new int[] {-1, 1, 8, MIN, MAX}) {
            Check.due("begin of no routine", x.begin(none), false);
        }
        stands("nothing happened", x, 1, 1, 1, 0, 1, 1);
    }

    private static void beginningAnew() {
        CounterPlacer x = new CounterPlacer();
        int called = Build.finished(x, "F G S L", "0>0:1* 0>1:1 0>2:1 1>3:1");
        int caller = Build.finished(x, "C0 L", "0>1:5");
        x.begin(caller);
        // calls, goes back once, then on to the Stop, but is not stopped by it
        Check.due("go", x.go(3, 0 | 2 << 2), 3);
        stands("in the Stop", x, 1, 2, 3, called, 2, 1);
        Check.due("begin", x.begin(called), true);
        stands("begun anew", x, 1, 1, 0, called, 0, 0);
        Check.due("stopped above", Check.ofBlock(x, called, 2, 7), 1);
        Check.due("stopped below", Check.ofBlock(x, caller, 0, 7), 1);
        Check.due("true", Check.ofEdge(x, called, 2, 6), 1);
        Check.due("entries", Check.look(x, called, 6), 2);
        Check.due("the way that had ended stays", Check.look(x, called, 8), 1);
        Check.due("the other one leaves no trace", x.table(called, 1, 0), -1);
        x.go(9, 1);
        stands("ended", x, 2, 0, 3, -1, -1, 1);
        x.begin(called);
        Check.due("an ended run stops nothing more", Check.look(x, called, 9), 1);
    }

    private static void wrongGo() {
        CounterPlacer x = new CounterPlacer();
        Check.due("go without a run", x.go(1, 0), -1);
        int r = Build.finished(x, "F L", "0>0:1* 0>1:1");
        Check.due("go without a run", x.go(1, 0), -1);
        x.begin(r);
        for (int n : new int[] {0, -1, 10001, MIN, MAX}) {
            Check.due("no such n", x.go(n, 0), -1);
        }
        stands("nothing happened", x, 1, 1, 0, 0, 0, 0);
        Check.due("go", x.go(1, 0), 1);
        Check.due("go", x.go(10000, 0), 10000);
        stands("under way", x, 1, 1, 10001, 0, 0, 10001);
        Check.due("go", x.go(10000, 1), 2);
        stands("ended", x, 2, 0, 10003, -1, -1, 10002);
        Check.due("go behind the end", x.go(1, 0), -1);
    }

    private static void choices() {
        for (int forks = 2; forks <= 4; forks++) {
            CounterPlacer x = new CounterPlacer();
            StringBuilder edges = new StringBuilder("0>1:1");
            for (int k = 1; k < forks; k++) {
                edges.append(" 0>0:1*");
            }
            int r = Build.finished(x, "F L", edges.toString());
            for (int choice = 0; choice < 4; choice++) {
                x.begin(r);
                long before = Check.ofEdge(x, r, choice % forks, 6);
                x.go(1, choice | 0xFFFFFFFC);
                Check.due("edge " + choice % forks + " of " + forks, Check.ofEdge(x, r, choice % forks, 6), before + 1);
            }
        }
        CounterPlacer x = new CounterPlacer();
        int r = Build.finished(x, "F L", "0>0:1* 0>0:1* 0>0:1* 0>1:1");
        x.begin(r);
        // the 16th fork has the highest bits (a 2), the 17th the lowest ones again (a 1)
        Check.due("go", x.go(17, MIN | 1), 17);
        Check.due("edge 0", Check.ofEdge(x, r, 0, 6), 14);
        Check.due("edge 1", Check.ofEdge(x, r, 1, 6), 2);
        Check.due("edge 2", Check.ofEdge(x, r, 2, 6), 1);
        Check.due("each call has its choices from the first on", x.go(1, 1), 1);
        Check.due("edge 1", Check.ofEdge(x, r, 1, 6), 3);
        Check.due("forks above count on below", callsCountForks(), 2);
    }

    /** The fork of the called one is the first, that of the caller the second. */
    private static long callsCountForks() {
        CounterPlacer x = new CounterPlacer();
        Build.finished(x, "F L L", "0>1:1 0>2:1");
        int caller = Build.finished(x, "C0 F L L L", "0>1:1 1>2:1 1>3:1 1>4:1");
        x.begin(caller);
        x.go(4, 1 | 2 << 2);
        return x.run(4) - 2;
    }

    private static void calls() {
        CounterPlacer x = new CounterPlacer();
        int called = Build.finished(x, "G L", "0>1:1");
        int caller = Build.finished(x, "C0 C0 L", "0>1:1 1>2:1");
        x.begin(caller);
        x.go(1, 0);
        stands("called", x, 1, 2, 1, called, 0, 0);
        x.go(2, 0);
        stands("the Call's edge is gone as the frame goes", x, 1, 1, 3, caller, 1, 1);
        Check.due("true", Check.ofEdge(x, caller, 0, 6), 1);
        Check.due("go", x.go(99, 0), 4);
        stands("ended", x, 2, 0, 7, -1, -1, 3);
        Check.due("entries", Check.look(x, called, 6), 2);
        Check.due("entries", Check.look(x, caller, 6), 1);
        Check.due("nothing stopped", Check.look(x, caller, 9), 0);
    }

    private static void leavingByBackEdge() {
        CounterPlacer x = new CounterPlacer();
        int called = Build.finished(x, "L", "");
        int caller = Build.finished(x, "F C0 L", "0>1:9 0>2:1 1>0:9*");
        x.begin(caller);
        Check.due("go", x.go(99, 1 << 2), 5);
        stands("ended", x, 2, 0, 5, -1, -1, 2);
        Check.due("rows", Check.look(x, caller, 8), 2);
        Check.due("way by the back edge", x.table(caller, 0, 0), 0);
        Check.due("way from the head", x.table(caller, 1, 0), 3);
        Check.due("way of the called", x.table(called, 0, 1), 1);
    }

    private static void stops() {
        CounterPlacer x = new CounterPlacer();
        int called = Build.finished(x, "S", "");
        int caller = Build.finished(x, "C0 L", "0>1:1");
        x.begin(caller);
        Check.due("go", x.go(9, 0), 2);
        stands("stopped", x, 3, 0, 2, -1, -1, 0);
        Check.due("go behind the end", x.go(1, 0), -1);
        Check.due("stopped above", Check.ofBlock(x, called, 0, 7), 1);
        Check.due("stopped below", Check.ofBlock(x, caller, 0, 7), 1);
        Check.due("a way ends in a Stop", Check.look(x, called, 8), 1);
        Check.due("a way that is stopped elsewhere doesn't", Check.look(x, caller, 8), 0);
        Check.due("the Call's edge isn't gone", Check.ofEdge(x, caller, 0, 6), 0);
        Check.due("open", Check.ofBlock(x, caller, 0, 8), 0);
    }

    private static void stuckByRoutine() {
        CounterPlacer x = new CounterPlacer();
        int caller = Build.finished(x, "C7 L", "0>1:1");
        int other = Build.finished(x, "C2 L", "0>1:1");
        int called = Build.open(x, "L", "");
        x.begin(caller);
        Check.due("no such routine", x.go(9, 0), 1);
        stands("stuck", x, 4, 0, 1, -1, -1, 0);
        Check.due("stopped", Check.ofBlock(x, caller, 0, 7), 1);
        Check.due("no way ended", Check.look(x, caller, 8), 0);
        x.begin(other);
        Check.due("not finished", x.go(9, 0), 1);
        stands("stuck", x, 4, 0, 1, -1, -1, 0);
        Check.due("go behind the end", x.go(1, 0), -1);
        x.begin(other);
        x.finish(called);
        Check.due("finished just in time", x.go(9, 0), 3);
        stands("ended", x, 2, 0, 3, -1, -1, 1);
    }

    private static void stuckByFrames() {
        CounterPlacer x = new CounterPlacer();
        int r = Build.finished(x, "F C0 L", "0>1:1 0>2:1 1>2:1");
        x.begin(r);
        // 29 calls from 29 forks, each with bits 0
        Check.due("go", x.go(58, 0), 58);
        stands("30 frames", x, 1, 30, 58, r, 0);
        Check.due("open", Check.ofBlock(x, r, 1, 8), 29);
        Check.due("go", x.go(1, 1), 1);
        Check.due("back from there", x.go(1, 0), 1);
        stands("29 frames", x, 1, 29, 60, r, 2);
        x.begin(r);
        Check.due("go", x.go(99, 0), 60);
        stands("stuck", x, 4, 0, 60, -1, -1);
        Check.due("stopped", Check.ofBlock(x, r, 1, 7), 28 + 30);
        Check.due("stopped", Check.ofBlock(x, r, 2, 7), 1);
        Check.due("entries", Check.look(x, r, 6), 60);
    }

    private static void longRun() {
        CounterPlacer x = new CounterPlacer();
        int r = Build.finished(x, "G G F L", "0>1:9 1>2:9 2>0:9* 2>3:1");
        x.begin(r);
        for (int i = 0; i < 300; i++) {
            Check.due("go", x.go(10000, 0), 10000);
        }
        Check.due("steps", x.run(2), 3000000);
        Check.due("true", Check.ofEdge(x, r, 0, 6), 1000000);
        Check.due("solved", x.solve(r, 0), 1000000);
        Check.due("told", x.told(r, 2), 1000000);
    }

    private static void asked() {
        CounterPlacer x = new CounterPlacer();
        for (int what : new int[] {-1, 6, MIN, MAX}) {
            Check.due("no such what", x.run(what), -1);
        }
    }
}
