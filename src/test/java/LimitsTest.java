/** "What it is" and "The public face": 512 calls on one object, all of it full, and what calls may throw. */
public final class LimitsTest {
    private static final int[] ODD = {
        Integer.MIN_VALUE, -2, -1, 0, 1, 2, 3, 5, 7, 8, 9, 10, 15, 16, 19, 20, 29, 30, 39, 40, 41, 60, 61, 62,
        9999, 10000, 10001, 1000000, 1000001, Integer.MAX_VALUE};
    private static final int CALLS = 512;

    public static void main(String[] args) {
        Check.sentence(1, "an object is used for at most 512 calls: a full one answers up to the last", LimitsTest::fullObject);
        Check.sentence(14, "512 calls of 10000 STEPS", LimitsTest::longestRun);
        Check.sentence(8, "look, ofEdge, ofBlock throw these two alone, and others nothing", LimitsTest::oddArguments);
        Check.end("LimitsTest");
    }

    /** 8 routines of 20 blocks and 40 edges: 496 calls, and 16 more. */
    private static void fullObject() {
        CounterPlacer x = new CounterPlacer();
        for (int r = 0; r < 8; r++) {
            Check.due("routine", x.routine(), r);
            for (int b = 0; b < 20; b++) {
                // the first calls the next, the last calls the first
                int kind = b == 19 ? 3 : b == 18 ? 2 : 1;
                Check.due("block", x.block(r, kind, (r + 1) % 8), b);
            }
            for (int e = 0; e < 40; e++) {
                int from = e < 19 ? e : e < 37 ? e - 19 : e - 37;
                boolean ahead = e < 19 || e >= 37;
                Check.due("edge", x.edge(r, from, ahead ? from + 1 : from, e, !ahead), e);
            }
            Check.due("finish", x.finish(r), 0);
        }
        Check.due("497", x.routine(), -1);
        Check.due("498", x.begin(7), true);
        // each frame needs 18 Forks and its Call
        Check.due("499", x.go(29 * 19, 0), 29 * 19);
        Check.due("500", x.run(1), 30);
        Check.due("501", x.run(3), (7 + 29) % 8);
        Check.due("502", x.solve(7, 17), 4);
        Check.due("503", Check.ofBlock(x, 7, 18, 8), 4);
        Check.due("504", x.go(10000, 0), 19);
        Check.due("505", x.run(0), 4);
        Check.due("506", Check.look(x, 4, 9), 4);
        Check.due("507", Check.look(x, 5, 9), 3);
        Check.due("508", x.plan(7), 22);
        Check.due("509", x.blur(7, 0, 1000000), true);
        Check.due("510", x.mend(7), 1000000);
        Check.due("511", x.way(7, Check.look(x, 7, 5) - 1, 0), 17);
        // that was the 512th, behind the look on the line above
    }

    private static void longestRun() {
        CounterPlacer x = new CounterPlacer();
        int r = Build.finished(x, "F L", "0>0:1* 0>1:1");
        x.begin(r);
        int calls = 7;
        for (; calls < CALLS - 5; calls++) {
            x.go(10000, 0);
        }
        int steps = (CALLS - 5 - 7) * 10000;
        Check.due("steps", x.run(2), steps);
        Check.due("price", x.run(5), steps);
        Check.due("solve", x.solve(r, 0), steps);
        Check.due("how often", x.table(r, 1, 1), steps - 1);
        Check.due("told", x.told(r, 0), steps);
    }

    private static void oddArguments() {
        for (int state = 0; state < 6; state++) {
            for (int what = 0; what < 20; what++) {
                oddCalls(state, what);
            }
        }
    }

    /** 0 new, 1 with open routines, 2 finished, 3 a run under way, 4 an ended one, 5 as many frames as may be. */
    private static CounterPlacer inState(int state) {
        CounterPlacer x = new CounterPlacer();
        if (state == 0) {
            return x;
        }
        Build.open(x, "F C0 L S", "0>1:1 0>2:1 0>3:1 0>0:1* 1>2:1");
        Build.open(x, "G", "");
        if (state > 1) {
            x.finish(0);
        }
        if (state > 2) {
            x.begin(0);
        }
        if (state > 3) {
            x.go(state == 4 ? 9 : 58, state == 4 ? 1 : 0);
        }
        return x;
    }

    /** One method with all odd arguments, on objects that are made anew before 512 calls are done. */
    private static void oddCalls(int state, int method) {
        CounterPlacer x = inState(state);
        int calls = 20;
        for (int a : ODD) {
            for (int b : ODD) {
                for (int c : ODD) {
                    if (calls == CALLS) {
                        x = inState(state);
                        calls = 20;
                    }
                    calls++;
                    oddCall(x, method, a, b, c);
                }
            }
        }
    }

    private static void oddCall(CounterPlacer x, int method, int a, int b, int c) {
        boolean mayThrow = method == 6 || method == 7 || method == 8;
        long answer = Check.answerOf(() -> answered(x, method, a, b, c));
        Check.due("method " + method + " (" + a + ", " + b + ", " + c + ") throws",
                !mayThrow && (answer == Check.INDEX || answer == Check.NO_ELEMENT), false);
        boolean ofRoutine = method != 0 && method != 12 && method != 13;
        if (ofRoutine && (a < 0 || a > 7)) {
            boolean isFalse = method == 3 || method == 11 || method == 18;
            Check.due("method " + method + " of routine " + a, answer, mayThrow ? Check.INDEX : isFalse ? 0 : -1);
        }
    }

    private static long answered(CounterPlacer x, int method, int a, int b, int c) {
        switch (method) {
            case 0: return x.routine();
            case 1: return x.block(a, b, c);
            case 2: return x.edge(a, b, c, 7, (b & 1) == 0);
            case 3: return x.guess(a, b, c) ? 1 : 0;
            case 4: return x.finish(a);
            case 5: return x.plan(a);
            case 6: return x.look(a, b);
            case 7: return x.ofEdge(a, b, c);
            case 8: return x.ofBlock(a, b, c);
            case 9: return x.solve(a, b);
            case 10: return x.ring(a, b, c);
            case 11: return x.begin(a) ? 1 : 0;
            case 12: return x.go(a, b);
            case 13: return x.run(a);
            case 14: return x.way(a, b, c);
            case 15: return x.along(a, b * 4294967297L, c);
            case 16: return x.table(a, b, c);
            case 17: return x.told(a, b);
            case 18: return x.blur(a, b, c) ? 1 : 0;
            default: return x.mend(a);
        }
    }
}
