/** Counts answers that aren't as due, and ends a test by its exit code. */
final class Check {
    static final long INDEX = Long.MIN_VALUE + 1;
    static final long NO_ELEMENT = Long.MIN_VALUE + 2;

    interface Call {
        long answer();
    }

    private static int checked;
    private static int wrong;

    private Check() {
    }

    static void due(String call, long got, long want) {
        checked++;
        if (got != want) {
            wrong++;
            if (wrong <= 50) {
                System.out.println(call + " answered " + named(got) + ", due is " + named(want));
            }
        }
    }

    static void due(String call, boolean got, boolean want) {
        due(call, got ? 1 : 0, want ? 1 : 0);
    }

    /** The answer of a call, or a number that stands for the exact class that it threw. */
    static long answerOf(Call call) {
        try {
            return call.answer();
        } catch (RuntimeException e) {
            if (e.getClass() == IndexOutOfBoundsException.class) {
                return INDEX;
            }
            if (e.getClass() == java.util.NoSuchElementException.class) {
                return NO_ELEMENT;
            }
            throw e;
        }
    }

    static long look(CounterPlacer x, int routine, int what) {
        return answerOf(() -> x.look(routine, what));
    }

    static long ofEdge(CounterPlacer x, int routine, int edge, int what) {
        return answerOf(() -> x.ofEdge(routine, edge, what));
    }

    static long ofBlock(CounterPlacer x, int routine, int block, int what) {
        return answerOf(() -> x.ofBlock(routine, block, what));
    }

    static int wrongSoFar() {
        return wrong;
    }

    static void end(String test) {
        System.out.println(test + ": " + checked + " answers, " + wrong + " not as due");
        if (wrong != 0 || checked == 0) {
            System.exit(1);
        }
    }

    private static String named(long answer) {
        if (answer == INDEX) {
            return "IndexOutOfBoundsException";
        }
        return answer == NO_ELEMENT ? "NoSuchElementException" : Long.toString(answer);
    }
}
