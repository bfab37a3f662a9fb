/** Builds routines from short texts. */
final class Build {
    private Build() {
    }

    /**
     * Blocks as "F G C3 L S" (fork, go, call of routine 3, leave, stop), edges as
     * "0>1:10 2>1:9*" (from, to, guess, a star behind back ones). The routine's number.
     */
    static int open(CounterPlacer x, String blocks, String edges) {
        int r = x.routine();
        for (String text : words(blocks)) {
            int kind = "GFCLS".indexOf(text.charAt(0));
            x.block(r, kind, kind == 2 ? Integer.parseInt(text.substring(1)) : 0);
        }
        for (String text : words(edges)) {
            boolean back = text.endsWith("*");
            String[] parts = text.replace("*", "").split("[>:]");
            x.edge(r, Integer.parseInt(parts[0]), Integer.parseInt(parts[1]), Integer.parseInt(parts[2]), back);
        }
        return r;
    }

    static int finished(CounterPlacer x, String blocks, String edges) {
        int r = open(x, blocks, edges);
        Check.due("finish of " + blocks + " / " + edges, x.finish(r), 0);
        return r;
    }

    private static String[] words(String text) {
        return text.isEmpty() ? new String[0] : text.split(" +");
    }
}
