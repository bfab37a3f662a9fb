/** Builds routines from short texts. */
final class Build {
    static final String DIAMOND = "F G G L";
    static final String DIAMOND_EDGES = "0>1:10 0>2:5 1>3:10 2>3:5";

    private Build() {
    }

    /**
     * Blocks as "F G C3 L S" (fork, go, call of routine 3, leave, stop), edges as
     * "0>1:10 2>1:9*" (from, to, guess, a star behind back ones). The routine's number.
     */
    static int open(CounterPlacer x, String blocks, String edges) {
        int r = x.routine();
        for (String text : words(blocks)) {
            int kind = "GFCLS".indexOf(text.charAt(0));
            x.block(r, kind, kind == 2 ? Integer.parseInt(text.substring(1)) : 0);
        }
        for (String text : words(edges)) {
            boolean back = text.endsWith("*");
            String[] parts = text.replace("*", "").split("[>:]");
            x.edge(r, Integer.parseInt(parts[0]), Integer.parseInt(parts[1]), Integer.parseInt(parts[2]), back);
        }
        return r;
    }

    static int finished(CounterPlacer x, String blocks, String edges) {
        int r = open(x, blocks, edges);
        Check.due("finish of " + blocks + " / " + edges, x.finish(r), 0);
        return r;
    }

    /** A block several times over, and others behind it. */
    static String many(int times, String block, String behind) {
        return (block + " ").repeat(times) + behind;
    }

    /** A routine of 18 ways: number i forks by i / 6, then i / 2 % 3, then i % 2 to the Leave or the Stop. */
    static int eighteenWays(CounterPlacer x) {
        return finished(x, "F F F L S", "0>1:1 0>1:1 0>1:1 1>2:1 1>2:1 1>2:1 2>3:1 2>4:1");
    }

    static void goWay(CounterPlacer x, int routine, int i) {
        x.begin(routine);
        x.go(9, i / 6 | i / 2 % 3 << 2 | i % 2 << 4);
    }

    private static String[] words(String text) {
        return text.isBlank() ? new String[0] : text.trim().split(" +");
    }
}
