import java.util.NoSuchElementException;

/**
 * A placer of counters: routines of blocks and edges, the fewest edges that need a counter,
 * runs that are rebuilt from these, numbered ways, and counts mended by the least change.
 */
public final class CounterPlacer {
    public static final int NONE = -1;

    private static final int MOST_ROUTINES = 8;
    private static final int MOST_BLOCKS = 20;
    private static final int MOST_EDGES = 40;
    private static final int MOST_OUT = 4;
    private static final int MOST_COUNT = 1000000;
    private static final int MOST_FRAMES = 30;
    private static final int MOST_STEPS = 10000;
    private static final int MOST_ROWS = 16;
    private static final long MOST_WAYS = 1000000000000L;

    // The nodes of a plan are the blocks and END; its links are the edges, then END's edges.
    private static final int MOST_NODES = MOST_BLOCKS + 1;
    private static final int MOST_LINKS = MOST_EDGES + MOST_BLOCKS + 1;

    private static final int GO = 0;
    private static final int FORK = 1;
    private static final int CALL = 2;
    private static final int LEAVE = 3;
    private static final int STOP = 4;

    private static final int NO_RUN = 0;
    private static final int UNDER_WAY = 1;
    private static final int ENDED_BY_LEAVE = 2;
    private static final int ENDED_BY_STOP = 3;
    private static final int STUCK = 4;

    private final Routine[] routines;
    private final Walk walk;
    private final Mender mender;
    private int routineCount;

    public CounterPlacer() {
        routines = new Routine[MOST_ROUTINES];
        walk = new Walk();
        mender = new Mender();
    }

    public int routine() {
        if (routineCount < 0 || routineCount >= routines.length) {
            return NONE;
        }
        routines[routineCount] = Routine.made(routineCount);
        routineCount++;
        return routineCount - 1;
    }

    public int block(int routine, int kind, int call) {
        Routine r = routineAt(routine);
        if (r == null || r.finished || kind < GO || kind > STOP) {
            return NONE;
        }
        if (kind == CALL && (call < 0 || call >= MOST_ROUTINES)) {
            return NONE;
        }
        return r.shape.addBlock(kind, kind == CALL ? call : NONE);
    }

    public int edge(int routine, int from, int to, int guess, boolean back) {
        Routine r = routineAt(routine);
        if (r == null || r.finished || !isCount(guess)) {
            return NONE;
        }
        return r.shape.addEdge(from, to, guess, back);
    }

    public boolean guess(int routine, int edge, int guess) {
        Routine r = routineAt(routine);
        if (r == null || !r.shape.hasEdge(edge) || !isCount(guess)) {
            return false;
        }
        r.shape.guesses[edge] = guess;
        return true;
    }

    public int finish(int routine) {
        Routine r = routineAt(routine);
        return r == null ? NONE : r.settle();
    }

    public int plan(int routine) {
        Routine r = finishedAt(routine);
        if (r == null || walk.hasFrameOf(routine)) {
            return NONE;
        }
        r.planAnew();
        return r.tree.counters;
    }

    public long look(int routine, int what) throws IndexOutOfBoundsException, NoSuchElementException {
        Routine r = routineAt(routine);
        if (r == null) {
            throw new IndexOutOfBoundsException("no such routine");
        }
        if (what < 0 || what > 9) {
            throw new NoSuchElementException("no such what of a routine");
        }
        return r.ofItself(what);
    }

    public long ofEdge(int routine, int edge, int what)
            throws IndexOutOfBoundsException, NoSuchElementException {
        Routine r = routineAt(routine);
        if (r == null || !r.shape.hasEdge(edge)) {
            throw new IndexOutOfBoundsException("no such edge");
        }
        if (what < 0 || what > 9) {
            throw new NoSuchElementException("no such what of an edge");
        }
        return what < 4 ? r.shape.shapeOfEdge(edge, what) : r.countOfEdge(edge, what);
    }

    public long ofBlock(int routine, int block, int what)
            throws IndexOutOfBoundsException, NoSuchElementException {
        Routine r = routineAt(routine);
        if (r == null || !r.shape.hasBlock(block)) {
            throw new IndexOutOfBoundsException("no such block");
        }
        if (what < 0 || what > 8) {
            throw new NoSuchElementException("no such what of a block");
        }
        if (what == 8) {
            return walk.openAt(routine, block);
        }
        return what < 4 ? r.shape.shapeOfBlock(block, what) : r.countOfBlock(block, what);
    }

    public long solve(int routine, int edge) {
        Routine r = finishedWithEdge(routine, edge);
        return r == null ? NONE : r.rebuiltCount(edge, walk);
    }

    public int ring(int routine, int counter, int edge) {
        Routine r = finishedWithEdge(routine, edge);
        if (r == null || !r.hasCounter(counter)) {
            return NONE;
        }
        return r.tree.placeInRing(counter, edge);
    }

    public boolean begin(int routine) {
        Routine r = finishedAt(routine);
        if (r == null) {
            return false;
        }
        walk.startIn(r);
        return true;
    }

    public int go(int n, int choices) {
        if (n < 1 || n > MOST_STEPS || walk.state != UNDER_WAY) {
            return NONE;
        }
        return walk.stepOn(n, choices, routines);
    }

    public int run(int what) {
        return walk.ofRun(what);
    }

    public int way(int routine, long n, int k) {
        Routine r = finishedAt(routine);
        if (r == null || !r.ways.unfold(n)) {
            return NONE;
        }
        return r.ways.unfoldedBlock(k);
    }

    public int along(int routine, long n, int k) {
        Routine r = finishedAt(routine);
        if (r == null || !r.ways.unfold(n)) {
            return NONE;
        }
        return r.ways.unfoldedEdge(k);
    }

    public long table(int routine, int k, int what) {
        Routine r = finishedAt(routine);
        return r == null ? NONE : r.table.inRow(k, what);
    }

    public long told(int routine, int edge) {
        Routine r = finishedWithEdge(routine, edge);
        return r == null ? NONE : r.toldCount(edge);
    }

    public boolean blur(int routine, int edge, int v) {
        Routine r = routineAt(routine);
        if (r == null || !r.shape.hasEdge(edge) || !isCount(v)) {
            return false;
        }
        r.blurred[edge] = v;
        return true;
    }

    public long mend(int routine) {
        Routine r = finishedAt(routine);
        return r == null ? NONE : mender.leastChange(r.shape, r.blurred);
    }

    private static boolean isCount(int v) {
        return v >= 0 && v <= MOST_COUNT;
    }

    private Routine routineAt(int number) {
        return number < 0 || number >= routines.length ? null : routines[number];
    }

    private Routine finishedAt(int number) {
        Routine r = routineAt(number);
        return r == null || !r.finished ? null : r;
    }

    private Routine finishedWithEdge(int number, int edge) {
        Routine r = finishedAt(number);
        return r == null || !r.shape.hasEdge(edge) ? null : r;
    }

    /** One routine: its shape, and all that is made of it when it is finished. */
    private static final class Routine {
        private final int number;
        private final Shape shape;
        private final Ways ways;
        private final Tree tree;
        private final Log log;
        private final Table table;
        private final int[] blurred = new int[MOST_EDGES];
        private final long[] lost = new long[MOST_BLOCKS];
        private boolean finished;

        private Routine(int number, Shape shape, Ways ways, Tree tree) {
            this.number = number;
            this.shape = shape;
            this.ways = ways;
            this.tree = tree;
            log = new Log();
            table = new Table();
        }

        static Routine made(int number) {
            Shape shape = new Shape();
            return new Routine(number, shape, new Ways(shape), new Tree(shape));
        }

        /** 0 once it is finished, or the first reason why it isn't good. */
        int settle() {
            if (finished) {
                return 0;
            }
            int fault = shape.firstFault();
            if (fault == 0) {
                fault = ways.firstFault();
            }
            if (fault != 0) {
                return fault;
            }
            shape.linkEnd();
            finished = true;
            planAnew();
            return 0;
        }

        void planAnew() {
            tree.grow();
            ways.lighten(tree.order);
            log.clear();
            table.clear();
        }

        boolean hasCounter(int edge) {
            return finished && shape.hasEdge(edge) && !tree.within[edge];
        }

        long ofItself(int what) {
            if (what > 2 && !finished) {
                return 0;
            }
            switch (what) {
                case 0: return shape.blocks;
                case 1: return shape.edges;
                case 2: return finished ? 1 : 0;
                case 3: return tree.counters;
                case 4: return tree.guessed;
                case 5: return ways.total;
                case 6: return log.entries;
                case 7: return table.fellOut;
                case 8: return table.rows;
                default: return log.stoppedInAll;
            }
        }

        long countOfEdge(int edge, int what) {
            if (what == 5) {
                return hasCounter(edge) ? shape.standOf(edge) : NONE;
            }
            if (!finished) {
                return 0;
            }
            switch (what) {
                case 4: return hasCounter(edge) ? 1 : 0;
                case 6: return log.gone[edge];
                case 7: return log.counted[edge];
                case 8: return ways.add[edge];
                default: return ways.light[edge];
            }
        }

        long countOfBlock(int block, int what) {
            if (!finished) {
                return what == 5 ? NONE : 0;
            }
            switch (what) {
                case 4: return ways.from[block];
                case 5: return ways.base[block];
                case 6: return ways.potential[block];
                default: return log.stopped[block];
            }
        }

        long rebuiltCount(int edge, Walk walk) {
            for (int b = 0; b < shape.blocks; b++) {
                lost[b] = log.stopped[b] + walk.openAt(number, b);
            }
            tree.rebuild(log.counted, lost);
            return tree.rebuilt[edge];
        }

        long toldCount(int edge) {
            long sum = 0;
            for (int row = 0; row < table.rows; row++) {
                if (ways.unfold(table.way[row]) && ways.unfoldedHas(edge)) {
                    sum += table.times[row];
                }
            }
            return sum;
        }

        void countEntry() {
            log.entries++;
        }

        void countStopped(int block) {
            log.stopped[block]++;
            log.stoppedInAll++;
        }

        /** How many counts this cost: 1 or 0. */
        int countGone(int edge) {
            log.gone[edge]++;
            if (tree.within[edge]) {
                return 0;
            }
            log.counted[edge]++;
            return 1;
        }
    }

    /** The blocks and edges of a routine and, once it is finished, END's links behind them. */
    private static final class Shape {
        private final int[] kind = new int[MOST_BLOCKS];
        private final int[] calls = new int[MOST_BLOCKS];
        private final int[] outs = new int[MOST_BLOCKS];
        private final int[] ins = new int[MOST_BLOCKS];
        private final int[] out = new int[MOST_BLOCKS * MOST_OUT];
        private final int[] from = new int[MOST_LINKS];
        private final int[] to = new int[MOST_LINKS];
        private final int[] guesses = new int[MOST_EDGES];
        private final boolean[] back = new boolean[MOST_EDGES];
        private final boolean[] marked = new boolean[MOST_BLOCKS];
        private int blocks;
        private int edges;
        private int links;

        boolean hasBlock(int block) {
            return block >= 0 && block < blocks;
        }

        boolean hasEdge(int edge) {
            return edge >= 0 && edge < edges;
        }

        boolean endsIn(int block) {
            return kind[block] == LEAVE || kind[block] == STOP;
        }

        int addBlock(int kindOfIt, int callOfIt) {
            if (blocks >= MOST_BLOCKS) {
                return NONE;
            }
            kind[blocks] = kindOfIt;
            calls[blocks] = callOfIt;
            blocks++;
            return blocks - 1;
        }

        int addEdge(int start, int target, int guessOfIt, boolean isBack) {
            if (edges >= MOST_EDGES || !hasBlock(start) || !hasBlock(target)) {
                return NONE;
            }
            if (endsIn(start) || outs[start] >= MOST_OUT) {
                return NONE;
            }
            from[edges] = start;
            to[edges] = target;
            guesses[edges] = guessOfIt;
            back[edges] = isBack;
            out[start * MOST_OUT + outs[start]] = edges;
            outs[start]++;
            ins[target]++;
            edges++;
            return edges - 1;
        }

        /** The k-th edge out of a block, or NONE. */
        int outOf(int block, int k) {
            return k < 0 || k >= outs[block] ? NONE : out[block * MOST_OUT + k];
        }

        /** The first of the faults 1 to 4; the others are of the ways. */
        int firstFault() {
            if (blocks == 0) {
                return 1;
            }
            if (!outsFitKinds()) {
                return 2;
            }
            if (!allReached()) {
                return 3;
            }
            return allCanEnd() ? 0 : 4;
        }

        private boolean outsFitKinds() {
            for (int b = 0; b < blocks; b++) {
                int least = endsIn(b) ? 0 : kind[b] == FORK ? 2 : 1;
                int most = kind[b] == FORK ? MOST_OUT : least;
                if (outs[b] < least || outs[b] > most) {
                    return false;
                }
            }
            return true;
        }

        private boolean allReached() {
            for (int b = 0; b < blocks; b++) {
                marked[b] = b == 0;
            }
            return marksSpread(from, to);
        }

        private boolean allCanEnd() {
            for (int b = 0; b < blocks; b++) {
                marked[b] = endsIn(b);
            }
            return marksSpread(to, from);
        }

        /** Whether the marks come to every block if each edge carries them one way. */
        private boolean marksSpread(int[] giver, int[] taker) {
            for (int pass = 0; pass < blocks; pass++) {
                for (int e = 0; e < edges; e++) {
                    if (marked[giver[e]]) {
                        marked[taker[e]] = true;
                    }
                }
            }
            for (int b = 0; b < blocks; b++) {
                if (!marked[b]) {
                    return false;
                }
            }
            return true;
        }

        /** END is the node behind the blocks. No edge comes any more, so its links stand behind the edges. */
        void linkEnd() {
            links = edges;
            for (int b = 0; b < blocks; b++) {
                if (kind[b] == LEAVE) {
                    addLink(b, blocks);
                }
            }
            addLink(blocks, 0);
        }

        private void addLink(int start, int target) {
            from[links] = start;
            to[links] = target;
            links++;
        }

        /** Where a counter stands: 1 at the end of from, 2 at the beginning of to, 0 between them. */
        int standOf(int edge) {
            if (outs[from[edge]] == 1) {
                return 1;
            }
            // END's link comes into block 0, too
            int into = ins[to[edge]] + (to[edge] == 0 ? 1 : 0);
            return into == 1 ? 2 : 0;
        }

        long shapeOfEdge(int edge, int what) {
            switch (what) {
                case 0: return from[edge];
                case 1: return to[edge];
                case 2: return guesses[edge];
                default: return back[edge] ? 1 : 0;
            }
        }

        long shapeOfBlock(int block, int what) {
            switch (what) {
                case 0: return kind[block];
                case 1: return calls[block];
                case 2: return outs[block];
                default: return ins[block];
            }
        }
    }

    /** The tree of a plan: edges outside it have counters. */
    private static final class Tree {
        private final Shape shape;
        private final int[] order = new int[MOST_EDGES];
        private final boolean[] within = new boolean[MOST_LINKS];
        private final int[] part = new int[MOST_NODES];
        private final int[] up = new int[MOST_NODES];
        private final int[] line = new int[MOST_NODES];
        private final boolean[] lined = new boolean[MOST_NODES];
        private final long[] surplus = new long[MOST_NODES];
        private final long[] rebuilt = new long[MOST_LINKS];
        private int lineLength;
        private int counters;
        private long guessed;

        Tree(Shape shape) {
            this.shape = shape;
        }

        void grow() {
            sortByGuess();
            takeLinks();
            lineUpFromEnd();
        }

        /** The greatest guess first, of several alike the lesser number. */
        private void sortByGuess() {
            for (int e = 0; e < shape.edges; e++) {
                int place = e;
                while (place > 0 && shape.guesses[order[place - 1]] < shape.guesses[e]) {
                    order[place] = order[place - 1];
                    place--;
                }
                order[place] = e;
            }
        }

        private void takeLinks() {
            for (int node = 0; node <= shape.blocks; node++) {
                part[node] = node;
            }
            for (int link = shape.edges; link < shape.links; link++) {
                joinParts(link);
                within[link] = true;
            }
            counters = 0;
            guessed = 0;
            for (int i = 0; i < shape.edges; i++) {
                int edge = order[i];
                within[edge] = joinParts(edge);
                if (!within[edge]) {
                    counters++;
                    guessed += shape.guesses[edge];
                }
            }
        }

        /** Whether the ends of a link were in two parts, which are one then. */
        private boolean joinParts(int link) {
            int kept = part[shape.from[link]];
            int gone = part[shape.to[link]];
            if (kept == gone) {
                return false;
            }
            for (int node = 0; node <= shape.blocks; node++) {
                if (part[node] == gone) {
                    part[node] = kept;
                }
            }
            return true;
        }

        /** Lines the nodes up so that each stands behind the one to which its link up goes. */
        private void lineUpFromEnd() {
            for (int node = 0; node <= shape.blocks; node++) {
                lined[node] = false;
                up[node] = NONE;
            }
            lineLength = 0;
            lineUp(shape.blocks, NONE);
            for (int i = 0; i < lineLength && i < MOST_NODES; i++) {
                for (int link = 0; link < shape.links; link++) {
                    int other = within[link] ? otherEnd(link, line[i]) : NONE;
                    if (other != NONE && !lined[other]) {
                        lineUp(other, link);
                    }
                }
            }
        }

        private void lineUp(int node, int link) {
            if (lineLength < MOST_NODES) {
                line[lineLength] = node;
                lineLength++;
                lined[node] = true;
                up[node] = link;
            }
        }

        private int otherEnd(int link, int node) {
            if (shape.from[link] == node) {
                return shape.to[link];
            }
            return shape.to[link] == node ? shape.from[link] : NONE;
        }

        /** How an edge lies in the ring that a counter's edge closes: 1 as that goes, 2 against it, 0 not. */
        int placeInRing(int counter, int edge) {
            if (counter == edge) {
                return 1;
            }
            if (!within[edge]) {
                return 0;
            }
            int low = up[shape.from[edge]] == edge ? shape.from[edge] : shape.to[edge];
            boolean climbs = isBelow(shape.to[counter], low);
            if (climbs == isBelow(shape.from[counter], low)) {
                return 0;
            }
            return climbs == (shape.from[edge] == low) ? 1 : 2;
        }

        /** Whether the way up from a node passes another one, or begins there. */
        private boolean isBelow(int node, int above) {
            int at = node;
            for (int i = 0; i <= shape.blocks; i++) {
                if (at == above) {
                    return true;
                }
                if (up[at] == NONE) {
                    return false;
                }
                at = otherEnd(up[at], at);
                if (at == NONE) {
                    return false;
                }
            }
            return false;
        }

        /** All counts from those of the counters, and from how many were lost in each block. */
        void rebuild(long[] counted, long[] lost) {
            for (int b = 0; b < shape.blocks; b++) {
                surplus[b] = -lost[b];
            }
            surplus[shape.blocks] = 0;
            for (int e = 0; e < shape.edges; e++) {
                if (!within[e]) {
                    carry(e, counted[e]);
                }
            }
            // behind a node in the line all its links but the one up are known by then
            for (int i = lineLength - 1; i > 0; i--) {
                int node = line[i];
                int link = up[node];
                if (link != NONE) {
                    carry(link, shape.from[link] == node ? surplus[node] : -surplus[node]);
                }
            }
        }

        private void carry(int link, long count) {
            rebuilt[link] = count;
            surplus[shape.from[link]] -= count;
            surplus[shape.to[link]] += count;
        }
    }

    /** The ways of a routine, their numbers, and the lighter sums along them. */
    private static final class Ways {
        private final Shape shape;
        private final long[] from = new long[MOST_BLOCKS];
        private final long[] base = new long[MOST_BLOCKS];
        private final long[] potential = new long[MOST_BLOCKS];
        private final long[] add = new long[MOST_EDGES];
        private final long[] light = new long[MOST_EDGES];
        private final int[] least = new int[MOST_BLOCKS];
        private final int[] passedBlocks = new int[MOST_BLOCKS];
        private final int[] passedEdges = new int[MOST_BLOCKS];
        private int passed;
        private long total;

        Ways(Shape shape) {
            this.shape = shape;
        }

        /** The first of the faults 5 and 6; all but the lights is made on the way. */
        int firstFault() {
            if (!countFromBlocks()) {
                return 5;
            }
            sumAdds();
            setBases();
            return total > MOST_WAYS ? 6 : 0;
        }

        /** False if a ring without back edges keeps some block from its number. */
        private boolean countFromBlocks() {
            for (int b = 0; b < shape.blocks; b++) {
                from[b] = 0;
            }
            for (int pass = 0; pass < shape.blocks; pass++) {
                for (int b = 0; b < shape.blocks; b++) {
                    from[b] = countFrom(b);
                }
            }
            for (int b = 0; b < shape.blocks; b++) {
                if (from[b] == 0) {
                    return false;
                }
            }
            return true;
        }

        /** 0 while one of the blocks behind it isn't counted. */
        private long countFrom(int block) {
            if (shape.endsIn(block)) {
                return 1;
            }
            long sum = 0;
            for (int k = 0; k < shape.outs[block]; k++) {
                long more = countBeyond(shape.out[block * MOST_OUT + k]);
                if (more == 0) {
                    return 0;
                }
                sum += more;
            }
            return sum;
        }

        private long countBeyond(int edge) {
            return shape.back[edge] ? 1 : from[shape.to[edge]];
        }

        private void sumAdds() {
            for (int b = 0; b < shape.blocks; b++) {
                long sum = 0;
                for (int k = 0; k < shape.outs[b]; k++) {
                    int edge = shape.out[b * MOST_OUT + k];
                    add[edge] = sum;
                    sum += countBeyond(edge);
                }
            }
        }

        private void setBases() {
            for (int b = 0; b < shape.blocks; b++) {
                base[b] = NONE;
            }
            for (int e = 0; e < shape.edges; e++) {
                if (shape.back[e]) {
                    base[shape.to[e]] = 0;
                }
            }
            total = from[0];
            for (int b = 0; b < shape.blocks; b++) {
                if (base[b] != NONE) {
                    base[b] = total;
                    total += from[b];
                }
            }
        }

        /** Moves the adds onto the edges outside of trees that are grown in the order given. */
        void lighten(int[] order) {
            for (int b = 0; b < shape.blocks; b++) {
                least[b] = b;
                potential[b] = 0;
            }
            for (int i = 0; i < shape.edges; i++) {
                if (!shape.back[order[i]]) {
                    joinTrees(order[i]);
                }
            }
            // from the greatest block down: the least one of a tree must keep its own till the last
            for (int b = shape.blocks - 1; b >= 0; b--) {
                potential[b] -= potential[least[b]];
            }
            for (int e = 0; e < shape.edges; e++) {
                light[e] = shape.back[e] ? 0
                        : add[e] + potential[shape.from[e]] - potential[shape.to[e]];
            }
        }

        private void joinTrees(int edge) {
            int one = least[shape.from[edge]];
            int other = least[shape.to[edge]];
            if (one == other) {
                return;
            }
            long shift = potential[shape.from[edge]] + add[edge] - potential[shape.to[edge]];
            for (int b = 0; b < shape.blocks; b++) {
                if (least[b] == other) {
                    potential[b] += shift;
                    least[b] = Math.min(one, other);
                } else if (least[b] == one) {
                    least[b] = Math.min(one, other);
                }
            }
        }

        /** Lays a way out, block by block; false if there is no way of this number. */
        boolean unfold(long number) {
            passed = 0;
            if (number < 0 || number >= total) {
                return false;
            }
            int block = beginningOf(number);
            long rest = number - (number < from[0] ? 0 : base[block]);
            while (block != NONE && passed < shape.blocks) {
                int edge = edgeFor(block, rest);
                passedBlocks[passed] = block;
                passedEdges[passed] = edge;
                passed++;
                rest -= edge == NONE ? 0 : add[edge];
                block = edge == NONE || shape.back[edge] ? NONE : shape.to[edge];
            }
            return true;
        }

        private int beginningOf(long number) {
            int block = 0;
            for (int b = 0; b < shape.blocks; b++) {
                if (base[b] != NONE && base[b] <= number) {
                    block = b;
                }
            }
            return block;
        }

        /** The last edge out of a block that doesn't add more than what rests. */
        private int edgeFor(int block, long rest) {
            int edge = NONE;
            for (int k = 0; k < shape.outs[block]; k++) {
                int next = shape.out[block * MOST_OUT + k];
                if (add[next] <= rest) {
                    edge = next;
                }
            }
            return edge;
        }

        int unfoldedBlock(int k) {
            return k < 0 || k >= passed ? NONE : passedBlocks[k];
        }

        int unfoldedEdge(int k) {
            return k < 0 || k >= passed ? NONE : passedEdges[k];
        }

        boolean unfoldedHas(int edge) {
            for (int k = 0; k < passed; k++) {
                if (passedEdges[k] == edge) {
                    return true;
                }
            }
            return false;
        }
    }

    /** What runs left behind since the routine was planned. */
    private static final class Log {
        private final long[] gone = new long[MOST_EDGES];
        private final long[] counted = new long[MOST_EDGES];
        private final long[] stopped = new long[MOST_BLOCKS];
        private long entries;
        private long stoppedInAll;

        void clear() {
            for (int e = 0; e < MOST_EDGES; e++) {
                gone[e] = 0;
                counted[e] = 0;
            }
            for (int b = 0; b < MOST_BLOCKS; b++) {
                stopped[b] = 0;
            }
            entries = 0;
            stoppedInAll = 0;
        }
    }

    /** How often ways ended, for the first few numbers that came. */
    private static final class Table {
        private final long[] way = new long[MOST_ROWS];
        private final long[] times = new long[MOST_ROWS];
        private int rows;
        private long fellOut;

        void clear() {
            rows = 0;
            fellOut = 0;
        }

        void count(long number) {
            for (int row = 0; row < rows; row++) {
                if (way[row] == number) {
                    times[row]++;
                    return;
                }
            }
            if (rows >= MOST_ROWS) {
                fellOut++;
                return;
            }
            way[rows] = number;
            times[rows] = 1;
            rows++;
        }

        long inRow(int k, int what) {
            if (k < 0 || k >= rows || what < 0 || what > 1) {
                return NONE;
            }
            return what == 0 ? way[k] : times[k];
        }
    }

    /** The run: frames upon one another, each in a block of its routine and on a way. */
    private static final class Walk {
        private final Routine[] routineOf = new Routine[MOST_FRAMES];
        private final int[] blockOf = new int[MOST_FRAMES];
        private final long[] sumOf = new long[MOST_FRAMES];
        private int frames;
        private int state = NO_RUN;
        private int steps;
        private int price;
        private int forks;
        private int choices;

        void startIn(Routine routine) {
            dropFrames();
            state = UNDER_WAY;
            steps = 0;
            price = 0;
            enter(routine);
        }

        /** How many steps were done, most at the most. */
        int stepOn(int most, int choicesOfIt, Routine[] routines) {
            choices = choicesOfIt;
            forks = 0;
            int done = 0;
            while (done < most && state == UNDER_WAY) {
                step(routines);
                done++;
            }
            steps += done;
            return done;
        }

        private void step(Routine[] routines) {
            Routine top = topRoutine();
            if (top == null) {
                return;
            }
            int block = blockOf[frames - 1];
            switch (top.shape.kind[block]) {
                case GO:
                    cross(top, top.shape.outOf(block, 0));
                    break;
                case FORK:
                    cross(top, top.shape.outOf(block, choose(top.shape.outs[block])));
                    break;
                case CALL:
                    enterCalled(top.shape.calls[block], routines);
                    break;
                case LEAVE:
                    leave(top);
                    break;
                default:
                    top.table.count(sumOf[frames - 1]);
                    dropFrames();
                    state = ENDED_BY_STOP;
                    break;
            }
        }

        private int choose(int number) {
            int bits = choices >> 2 * (forks % 16) & 3;
            forks++;
            return number > 0 ? bits % number : 0;
        }

        private void enterCalled(int number, Routine[] routines) {
            Routine called = number < 0 || number >= routines.length ? null : routines[number];
            if (called == null || !called.finished || frames >= MOST_FRAMES) {
                dropFrames();
                state = STUCK;
                return;
            }
            enter(called);
        }

        private void enter(Routine routine) {
            if (frames < MOST_FRAMES) {
                routineOf[frames] = routine;
                blockOf[frames] = 0;
                sumOf[frames] = 0;
                frames++;
                routine.countEntry();
            }
        }

        private void leave(Routine top) {
            top.table.count(sumOf[frames - 1]);
            frames--;
            Routine below = topRoutine();
            if (below == null) {
                state = ENDED_BY_LEAVE;
                return;
            }
            cross(below, below.shape.outOf(blockOf[frames - 1], 0));
        }

        /** The top frame goes an edge of its routine. */
        private void cross(Routine top, int edge) {
            if (edge == NONE || frames < 1) {
                return;
            }
            int frame = frames - 1;
            int target = top.shape.to[edge];
            price += top.countGone(edge);
            sumOf[frame] += top.ways.add[edge];
            if (top.shape.back[edge]) {
                top.table.count(sumOf[frame]);
                sumOf[frame] = top.ways.base[target];
            }
            blockOf[frame] = target;
        }

        private void dropFrames() {
            for (int frame = frames - 1; frame >= 0; frame--) {
                if (routineOf[frame] != null) {
                    routineOf[frame].countStopped(blockOf[frame]);
                }
            }
            frames = 0;
        }

        private Routine topRoutine() {
            return frames < 1 || frames > MOST_FRAMES ? null : routineOf[frames - 1];
        }

        boolean hasFrameOf(int routine) {
            for (int frame = 0; frame < frames; frame++) {
                if (isOf(frame, routine)) {
                    return true;
                }
            }
            return false;
        }

        int openAt(int routine, int block) {
            int open = 0;
            for (int frame = 0; frame < frames; frame++) {
                if (isOf(frame, routine) && blockOf[frame] == block) {
                    open++;
                }
            }
            return open;
        }

        private boolean isOf(int frame, int routine) {
            return routineOf[frame] != null && routineOf[frame].number == routine;
        }

        int ofRun(int what) {
            Routine top = topRoutine();
            switch (what) {
                case 0: return state;
                case 1: return frames;
                case 2: return steps;
                case 3: return top == null ? NONE : top.number;
                case 4: return top == null ? NONE : blockOf[frames - 1];
                case 5: return price;
                default: return NONE;
            }
        }
    }

    /**
     * Mends blurred counts: what is too much in a block is carried, link by link, to where it
     * lacks, each time along the cheapest chain of changes. Of the cheapest ones it takes one of
     * the fewest links, since only this keeps the number of rounds low.
     */
    private static final class Mender {
        private static final int MOST_ROUNDS = 1000000;
        private static final int FAR = 1000000000;
        private static final int NO_LIMIT = 1000000000;
        // more than the links of any chain, so that these never outweigh a change
        private static final int CHANGE = 64;

        private final int[] count = new int[MOST_LINKS];
        private final int[] excess = new int[MOST_NODES];
        private final int[] far = new int[MOST_NODES];
        private final int[] cameBy = new int[MOST_NODES];

        long leastChange(Shape shape, int[] blurred) {
            takeCounts(shape, blurred);
            for (int round = 0; round < MOST_ROUNDS; round++) {
                measure(shape, blurred);
                int lack = nearestLack(shape);
                if (lack == NONE) {
                    break;
                }
                carryTo(lack, shape, blurred);
            }
            long sum = 0;
            for (int e = 0; e < shape.edges; e++) {
                sum += Math.abs(count[e] - blurred[e]);
            }
            return sum;
        }

        private void takeCounts(Shape shape, int[] blurred) {
            for (int node = 0; node <= shape.blocks; node++) {
                excess[node] = 0;
            }
            for (int link = 0; link < shape.links; link++) {
                count[link] = link < shape.edges ? blurred[link] : 0;
                excess[shape.from[link]] -= count[link];
                excess[shape.to[link]] += count[link];
            }
        }

        /** How far each node is from a block that has too much. */
        private void measure(Shape shape, int[] blurred) {
            for (int node = 0; node <= shape.blocks; node++) {
                far[node] = excess[node] > 0 ? 0 : FAR;
                cameBy[node] = NONE;
            }
            boolean nearer = true;
            for (int pass = 0; pass <= shape.blocks && nearer; pass++) {
                nearer = false;
                for (int link = 0; link < shape.links; link++) {
                    int blur = link < shape.edges ? blurred[link] : NONE;
                    if (comeNearer(shape.from[link], shape.to[link], link, costOfMore(link, blur))) {
                        nearer = true;
                    }
                    if (count[link] > 0
                            && comeNearer(shape.to[link], shape.from[link], link, costOfLess(link, blur))) {
                        nearer = true;
                    }
                }
            }
        }

        private boolean comeNearer(int node, int next, int link, int cost) {
            if (far[node] >= FAR || far[node] + cost >= far[next]) {
                return false;
            }
            far[next] = far[node] + cost;
            cameBy[next] = link;
            return true;
        }

        /** NONE as a blur is that of END's links, whose counts are free. */
        private int costOfMore(int link, int blur) {
            if (blur == NONE) {
                return 1;
            }
            return count[link] < blur ? 1 - CHANGE : 1 + CHANGE;
        }

        private int costOfLess(int link, int blur) {
            if (blur == NONE) {
                return 1;
            }
            return count[link] > blur ? 1 - CHANGE : 1 + CHANGE;
        }

        private int nearestLack(Shape shape) {
            int nearest = NONE;
            for (int node = 0; node <= shape.blocks; node++) {
                if (excess[node] < 0 && far[node] < FAR
                        && (nearest == NONE || far[node] < far[nearest])) {
                    nearest = node;
                }
            }
            return nearest;
        }

        private void carryTo(int lack, Shape shape, int[] blurred) {
            int amount = -excess[lack];
            int node = lack;
            for (int i = 0; i <= shape.blocks && cameBy[node] != NONE; i++) {
                int link = cameBy[node];
                int blur = link < shape.edges ? blurred[link] : NONE;
                boolean more = shape.to[link] == node;
                amount = Math.min(amount, more ? roomForMore(link, blur) : roomForLess(link, blur));
                node = more ? shape.from[link] : shape.to[link];
            }
            amount = Math.min(amount, excess[node]);
            excess[node] -= amount;
            excess[lack] += amount;
            node = lack;
            for (int i = 0; i <= shape.blocks && cameBy[node] != NONE; i++) {
                int link = cameBy[node];
                boolean more = shape.to[link] == node;
                count[link] += more ? amount : -amount;
                node = more ? shape.from[link] : shape.to[link];
            }
        }

        /** How much more a count may become before the cost of a change is another. */
        private int roomForMore(int link, int blur) {
            return count[link] < blur ? blur - count[link] : NO_LIMIT;
        }

        private int roomForLess(int link, int blur) {
            return blur != NONE && count[link] > blur ? count[link] - blur : count[link];
        }
    }
}
