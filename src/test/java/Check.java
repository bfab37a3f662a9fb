/** Counts answers that aren't as due, and ends a test by its exit code. */
final class Check {
    static final long INDEX = Long.MIN_VALUE + 1;
    static final long NO_ELEMENT = Long.MIN_VALUE + 2;

    interface Call {
        long answer();
    }

    private static final int MOST_TOLD = 50;
    private static String where = "";
    private static int sentences;
    private static int checked;
    private static int wrong;

    private Check() {
    }

    /** A test of one sentence of the document: what fails in it is told with its promise's number. */
    static void sentence(int promise, String words, Runnable test) {
        where = "promise " + promise + " (" + words + "): ";
        sentences++;
        int before = checked;
        try {
            test.run();
        } catch (RuntimeException e) {
            fail("threw " + e);
        }
        if (checked == before) {
            fail("nothing was tested");
        }
        where = "";
    }

    static void due(String call, long got, long want) {
        checked++;
        if (got != want) {
            fail(call + " answered " + named(got) + ", due is " + named(want));
        }
    }

    static void due(String call, boolean got, boolean want) {
        due(call, got ? 1 : 0, want ? 1 : 0);
    }

    private static void fail(String what) {
        wrong++;
        if (wrong <= MOST_TOLD) {
            System.out.println(where + what);
        }
    }

    /** Numbers that are none of 0 .. count - 1: just beside them, and far off. */
    static int[] outside(int count) {
        return new int[] {-1, count, count + 1, Integer.MIN_VALUE, Integer.MAX_VALUE};
    }

    /** The answer of a call, or a number that stands for the exact class that it threw. */
    static long answerOf(Call call) {
        try {
            return call.answer();
        } catch (RuntimeException e) {
            if (e.getClass() == IndexOutOfBoundsException.class) {
                return INDEX;
            }
            if (e.getClass() == java.util.NoSuchElementException.class) {
                return NO_ELEMENT;
            }
            throw e;
        }
    }

    static long look(CounterPlacer x, int routine, int what) {
        return answerOf(() -> x.look(routine, what));
    }

    static long ofEdge(CounterPlacer x, int routine, int edge, int what) {
        return answerOf(() -> x.ofEdge(routine, edge, what));
    }

    static long ofBlock(CounterPlacer x, int routine, int block, int what) {
        return answerOf(() -> x.ofBlock(routine, block, what));
    }

    /** One what of a routine's edges, from edge 0 on. */
    static void edgesAre(CounterPlacer x, int routine, int what, long... due) {
        for (int e = 0; e < due.length; e++) {
            due("ofEdge(" + routine + ", " + e + ", " + what + ")", ofEdge(x, routine, e, what), due[e]);
        }
    }

    /** One what of a routine's blocks, from block 0 on. */
    static void blocksAre(CounterPlacer x, int routine, int what, long... due) {
        for (int b = 0; b < due.length; b++) {
            due("ofBlock(" + routine + ", " + b + ", " + what + ")", ofBlock(x, routine, b, what), due[b]);
        }
    }

    /** How the run stands, frames, steps, top routine, its block, price: as many as are due. */
    static void runIs(CounterPlacer x, long... due) {
        for (int what = 0; what < due.length; what++) {
            due("run(" + what + ")", x.run(what), due[what]);
        }
    }

    static int wrongSoFar() {
        return wrong;
    }

    static void end(String test) {
        System.out.println(test + ": " + sentences + " sentences, " + checked + " answers, " + wrong + " not as due");
        if (wrong != 0 || checked == 0) {
            System.exit(1);
        }
    }

    private static String named(long answer) {
        if (answer == INDEX) {
            return "IndexOutOfBoundsException";
        }
        return answer == NO_ELEMENT ? "NoSuchElementException" : Long.toString(answer);
    }
}
