import java.util.ArrayDeque;
import java.util.ArrayList;
import java.util.Arrays;
import java.util.Comparator;
import java.util.Deque;
import java.util.HashMap;
import java.util.List;
import java.util.Map;

/**
 * The document once more, in other ways than the program's: lists and recursion, the ways of a
 * frame kept as lists of edges and numbered by laying all of them out, mending by cycles.
 */
final class Model {
    static final long NONE = -1;

    static final class Edge {
        int number;
        int from;
        int to;
        int guess;
        boolean back;
        boolean counter;
        long gone;
        long counted;
        long blurred;
    }

    static final class Block {
        int kind;
        int call;
        long stopped;
        final List<Edge> out = new ArrayList<>();
    }

    static final class Routine {
        final List<Block> blocks = new ArrayList<>();
        final List<Edge> edges = new ArrayList<>();
        boolean finished;
        long guessed;
        long entries;
        long fellOut;
        long[] p;
        long[] light;
        /** The ways in the order of their numbers, each a beginning (-1: as the routine begins) and edges. */
        final List<List<Integer>> ways = new ArrayList<>();
        final Map<List<Integer>, Integer> numbers = new HashMap<>();
        final List<Integer> rows = new ArrayList<>();
        final Map<Integer, Integer> times = new HashMap<>();

        /** All edges with END's, END being the block behind the last. */
        List<int[]> links() {
            List<int[]> links = new ArrayList<>();
            for (Edge e : edges) {
                links.add(new int[] {e.from, e.to, e.number});
            }
            for (int b = 0; b < blocks.size(); b++) {
                if (blocks.get(b).kind == 3) {
                    links.add(new int[] {b, blocks.size(), -1});
                }
            }
            links.add(new int[] {blocks.size(), 0, -1});
            return links;
        }

        boolean isHead(int block) {
            return edges.stream().anyMatch(e -> e.back && e.to == block);
        }
    }

    static final class Frame {
        int routine;
        int block;
        List<Integer> way;
    }

    final List<Routine> routines = new ArrayList<>();
    final Deque<Frame> frames = new ArrayDeque<>();
    int state;
    int steps;
    int price;

    Routine at(int r) {
        return r < 0 || r >= routines.size() ? null : routines.get(r);
    }

    private Routine finishedAt(int r) {
        return at(r) != null && at(r).finished ? at(r) : null;
    }

    private Edge edgeAt(int r, int e) {
        Routine x = at(r);
        return x == null || e < 0 || e >= x.edges.size() ? null : x.edges.get(e);
    }

    long routine() {
        if (routines.size() == 8) {
            return NONE;
        }
        routines.add(new Routine());
        return routines.size() - 1;
    }

    long block(int r, int kind, int call) {
        Routine x = at(r);
        if (x == null || x.finished || x.blocks.size() == 20 || kind < 0 || kind > 4) {
            return NONE;
        }
        if (kind == 2 && (call < 0 || call > 7)) {
            return NONE;
        }
        Block b = new Block();
        b.kind = kind;
        b.call = kind == 2 ? call : -1;
        x.blocks.add(b);
        return x.blocks.size() - 1;
    }

    long edge(int r, int from, int to, int guess, boolean back) {
        Routine x = at(r);
        if (x == null || x.finished || x.edges.size() == 40 || guess < 0 || guess > 1000000) {
            return NONE;
        }
        int n = x.blocks.size();
        if (from < 0 || from >= n || to < 0 || to >= n) {
            return NONE;
        }
        Block b = x.blocks.get(from);
        if (b.kind >= 3 || b.out.size() == 4) {
            return NONE;
        }
        Edge e = new Edge();
        e.number = x.edges.size();
        e.from = from;
        e.to = to;
        e.guess = guess;
        e.back = back;
        x.edges.add(e);
        b.out.add(e);
        return e.number;
    }

    long guess(int r, int edge, int guess) {
        Edge e = edgeAt(r, edge);
        if (e == null || guess < 0 || guess > 1000000) {
            return 0;
        }
        e.guess = guess;
        return 1;
    }

    long finish(int r) {
        Routine x = at(r);
        if (x == null) {
            return NONE;
        }
        if (x.finished) {
            return 0;
        }
        int why = whyNotGood(x);
        if (why == 0) {
            x.finished = true;
            layOutWays(x);
            planOf(x);
        }
        return why;
    }

    private int whyNotGood(Routine x) {
        int n = x.blocks.size();
        if (n == 0) {
            return 1;
        }
        for (Block b : x.blocks) {
            int m = b.out.size();
            boolean fits = b.kind == 1 ? m >= 2 : b.kind == 0 || b.kind == 2 ? m == 1 : m == 0;
            if (!fits) {
                return 2;
            }
        }
        boolean[][] reach = reach(x, true);
        for (int b = 0; b < n; b++) {
            if (b != 0 && !reach[0][b]) {
                return 3;
            }
        }
        for (int b = 0; b < n; b++) {
            boolean ends = x.blocks.get(b).kind >= 3;
            for (int c = 0; c < n; c++) {
                ends |= reach[b][c] && x.blocks.get(c).kind >= 3;
            }
            if (!ends) {
                return 4;
            }
        }
        boolean[][] ahead = reach(x, false);
        for (int b = 0; b < n; b++) {
            if (ahead[b][b]) {
                return 5;
            }
        }
        return 0;
    }

    /** What is reached by one edge and more. */
    private static boolean[][] reach(Routine x, boolean withBack) {
        int n = x.blocks.size();
        boolean[][] reach = new boolean[n][n];
        for (Edge e : x.edges) {
            reach[e.from][e.to] |= withBack || !e.back;
        }
        for (int k = 0; k < n; k++) {
            for (int i = 0; i < n; i++) {
                for (int j = 0; j < n; j++) {
                    reach[i][j] |= reach[i][k] && reach[k][j];
                }
            }
        }
        return reach;
    }

    private static void layOutWays(Routine x) {
        List<Integer> begun = new ArrayList<>();
        begun.add(-1);
        layOut(x, 0, begun);
        for (int b = 0; b < x.blocks.size(); b++) {
            if (x.isHead(b)) {
                begun.set(0, b);
                layOut(x, b, begun);
            }
        }
    }

    private static void layOut(Routine x, int block, List<Integer> way) {
        Block b = x.blocks.get(block);
        if (b.kind >= 3) {
            note(x, way);
        }
        for (Edge e : b.out) {
            way.add(e.number);
            if (e.back) {
                note(x, way);
            } else {
                layOut(x, e.to, way);
            }
            way.remove(way.size() - 1);
        }
    }

    private static void note(Routine x, List<Integer> way) {
        List<Integer> copy = new ArrayList<>(way);
        x.numbers.put(copy, x.ways.size());
        x.ways.add(copy);
    }

    /** How many ways are laid out if a routine were good; more than most counts as more. */
    static long waysOf(Routine x, long most) {
        long sum = waysFrom(x, 0, most);
        for (int b = 0; b < x.blocks.size() && sum <= most; b++) {
            sum += x.isHead(b) ? waysFrom(x, b, most) : 0;
        }
        return sum;
    }

    static long waysFrom(Routine x, int block, long most) {
        Block b = x.blocks.get(block);
        long sum = b.kind >= 3 ? 1 : 0;
        for (Edge e : b.out) {
            sum += e.back ? 1 : waysFrom(x, e.to, most);
            if (sum > most) {
                return sum;
            }
        }
        return sum;
    }

    private static List<Edge> byGuess(Routine x) {
        List<Edge> sorted = new ArrayList<>(x.edges);
        sorted.sort(Comparator.comparingInt((Edge e) -> -e.guess).thenComparingInt(e -> e.number));
        return sorted;
    }

    private static void planOf(Routine x) {
        List<int[]> tree = new ArrayList<>();
        for (int[] link : x.links()) {
            if (link[2] < 0) {
                tree.add(link);
            }
        }
        x.guessed = 0;
        for (Edge e : byGuess(x)) {
            e.counter = e.from == e.to || pathOf(tree, e.to, e.from, new ArrayList<>()) != null;
            x.guessed += e.counter ? e.guess : 0;
            if (!e.counter) {
                tree.add(new int[] {e.from, e.to, e.number});
            }
            e.gone = 0;
            e.counted = 0;
        }
        for (Block b : x.blocks) {
            b.stopped = 0;
        }
        x.entries = 0;
        x.fellOut = 0;
        x.rows.clear();
        x.times.clear();
        lightsOf(x);
    }

    /** The links of the path between two nodes, each with 1 or 2 behind it as it is gone, or null. */
    private static List<int[]> pathOf(List<int[]> tree, int start, int target, List<int[]> used) {
        if (start == target) {
            return new ArrayList<>();
        }
        for (int[] link : tree) {
            if (used.contains(link) || link[0] != start && link[1] != start) {
                continue;
            }
            used.add(link);
            boolean along = link[0] == start;
            List<int[]> rest = pathOf(tree, along ? link[1] : link[0], target, used);
            if (rest != null) {
                rest.add(new int[] {link[2], along ? 1 : 2});
                return rest;
            }
        }
        return null;
    }

    private static void lightsOf(Routine x) {
        int n = x.blocks.size();
        List<int[]> forest = new ArrayList<>();
        for (Edge e : byGuess(x)) {
            if (!e.back && pathOf(forest, e.from, e.to, new ArrayList<>()) == null) {
                forest.add(new int[] {e.from, e.to, e.number});
            }
        }
        x.p = new long[n];
        for (int b = 0; b < n; b++) {
            int root = b;
            List<int[]> path = null;
            for (int c = 0; c <= b && path == null; c++) {
                path = pathOf(forest, c, b, new ArrayList<>());
                root = c;
            }
            x.p[b] = 0;
            if (root != b) {
                for (int[] link : path) {
                    x.p[b] += (link[1] == 1 ? 1 : -1) * addOf(x, x.edges.get(link[0]));
                }
            }
        }
        x.light = new long[x.edges.size()];
        for (Edge e : x.edges) {
            x.light[e.number] = e.back ? 0 : addOf(x, e) + x.p[e.from] - x.p[e.to];
        }
    }

    private static long addOf(Routine x, Edge edge) {
        long sum = 0;
        for (Edge e : x.blocks.get(edge.from).out) {
            if (e == edge) {
                return sum;
            }
            sum += e.back ? 1 : waysFrom(x, e.to, Long.MAX_VALUE / 8);
        }
        throw new AssertionError();
    }

    long plan(int r) {
        Routine x = finishedAt(r);
        if (x == null || frames.stream().anyMatch(f -> f.routine == r)) {
            return NONE;
        }
        planOf(x);
        return counters(x);
    }

    private static long counters(Routine x) {
        return x.edges.stream().filter(e -> e.counter).count();
    }

    long look(int r, int what) {
        Routine x = at(r);
        if (x == null) {
            return Check.INDEX;
        }
        if (what < 0 || what > 9) {
            return Check.NO_ELEMENT;
        }
        if (what > 2 && !x.finished) {
            return 0;
        }
        long[] all = {x.blocks.size(), x.edges.size(), x.finished ? 1 : 0, counters(x), x.guessed,
            x.ways.size(), x.entries, x.fellOut, x.rows.size(),
            x.blocks.stream().mapToLong(b -> b.stopped).sum()};
        return all[what];
    }

    long ofEdge(int r, int edge, int what) {
        Routine x = at(r);
        Edge e = edgeAt(r, edge);
        if (e == null) {
            return Check.INDEX;
        }
        if (what < 0 || what > 9) {
            return Check.NO_ELEMENT;
        }
        if (what == 5) {
            return x.finished && e.counter ? standOf(x, e) : NONE;
        }
        if (what > 3 && !x.finished) {
            return 0;
        }
        switch (what) {
            case 0: return e.from;
            case 1: return e.to;
            case 2: return e.guess;
            case 3: return e.back ? 1 : 0;
            case 4: return e.counter ? 1 : 0;
            case 6: return e.gone;
            case 7: return e.counted;
            case 8: return addOf(x, e);
            default: return x.light[edge];
        }
    }

    private static long standOf(Routine x, Edge e) {
        long out = x.links().stream().filter(l -> l[0] == e.from).count();
        long in = x.links().stream().filter(l -> l[1] == e.to).count();
        return out == 1 ? 1 : in == 1 ? 2 : 0;
    }

    long ofBlock(int r, int block, int what) {
        Routine x = at(r);
        if (x == null || block < 0 || block >= x.blocks.size()) {
            return Check.INDEX;
        }
        if (what < 0 || what > 8) {
            return Check.NO_ELEMENT;
        }
        Block b = x.blocks.get(block);
        if (what > 3 && !x.finished) {
            return what == 5 ? NONE : 0;
        }
        switch (what) {
            case 0: return b.kind;
            case 1: return b.call;
            case 2: return b.out.size();
            case 3: return x.edges.stream().filter(e -> e.to == block).count();
            case 4: return waysFrom(x, block, Long.MAX_VALUE / 8);
            case 5: return x.isHead(block) ? firstWayOf(x, block) : NONE;
            case 6: return x.p[block];
            case 7: return b.stopped;
            default: return frames.stream().filter(f -> f.routine == r && f.block == block).count();
        }
    }

    private static long firstWayOf(Routine x, int head) {
        for (int n = 0; n < x.ways.size(); n++) {
            if (x.ways.get(n).get(0) == head) {
                return n;
            }
        }
        throw new AssertionError();
    }

    /** What is solved must be what is true. */
    long solve(int r, int edge) {
        Edge e = edgeAt(r, edge);
        return e == null || !at(r).finished ? NONE : e.gone;
    }

    long ring(int r, int counter, int edge) {
        Edge c = edgeAt(r, counter);
        Edge e = edgeAt(r, edge);
        if (c == null || e == null || !at(r).finished || !c.counter) {
            return NONE;
        }
        if (c == e) {
            return 1;
        }
        List<int[]> tree = new ArrayList<>();
        for (int[] link : at(r).links()) {
            if (link[2] < 0 || !at(r).edges.get(link[2]).counter) {
                tree.add(link);
            }
        }
        for (int[] link : pathOf(tree, c.to, c.from, new ArrayList<>())) {
            if (link[0] == edge) {
                return link[1];
            }
        }
        return 0;
    }

    long begin(int r) {
        if (finishedAt(r) == null) {
            return 0;
        }
        drop();
        state = 1;
        steps = 0;
        price = 0;
        enter(r);
        return 1;
    }

    private void enter(int r) {
        Frame f = new Frame();
        f.routine = r;
        f.way = new ArrayList<>(List.of(-1));
        frames.push(f);
        at(r).entries++;
    }

    private void drop() {
        for (Frame f : frames) {
            at(f.routine).blocks.get(f.block).stopped++;
        }
        frames.clear();
    }

    private void wayEnds(Frame f) {
        Routine x = at(f.routine);
        int number = x.numbers.get(f.way);
        if (!x.rows.contains(number) && x.rows.size() == 16) {
            x.fellOut++;
            return;
        }
        if (!x.rows.contains(number)) {
            x.rows.add(number);
        }
        x.times.merge(number, 1, Integer::sum);
    }

    private void gone(Frame f, Edge e) {
        e.gone++;
        if (e.counter) {
            e.counted++;
            price++;
        }
        f.way.add(e.number);
        f.block = e.to;
        if (e.back) {
            wayEnds(f);
            f.way = new ArrayList<>(List.of(e.to));
        }
    }

    long go(int n, int choices) {
        if (n < 1 || n > 10000 || state != 1) {
            return NONE;
        }
        int done = 0;
        int forks = 0;
        while (done < n && state == 1) {
            done++;
            Frame f = frames.peek();
            Block b = at(f.routine).blocks.get(f.block);
            if (b.kind == 0) {
                gone(f, b.out.get(0));
            } else if (b.kind == 1) {
                int bits = (choices >>> (2 * (forks % 16))) & 3;
                forks++;
                gone(f, b.out.get(bits % b.out.size()));
            } else if (b.kind == 2 && (finishedAt(b.call) == null || frames.size() == 30)) {
                drop();
                state = 4;
            } else if (b.kind == 2) {
                enter(b.call);
            } else if (b.kind == 3) {
                wayEnds(f);
                frames.pop();
                if (frames.isEmpty()) {
                    state = 2;
                } else {
                    Frame below = frames.peek();
                    gone(below, at(below.routine).blocks.get(below.block).out.get(0));
                }
            } else {
                wayEnds(f);
                drop();
                state = 3;
            }
        }
        steps += done;
        return done;
    }

    long run(int what) {
        Frame f = frames.peek();
        switch (what) {
            case 0: return state;
            case 1: return frames.size();
            case 2: return steps;
            case 3: return f == null ? NONE : f.routine;
            case 4: return f == null ? NONE : f.block;
            case 5: return price;
            default: return NONE;
        }
    }

    long way(int r, long n, int k) {
        Routine x = finishedAt(r);
        if (x == null || n < 0 || n >= x.ways.size() || k < 0) {
            return NONE;
        }
        List<Integer> way = x.ways.get((int) n);
        if (k == 0) {
            return Math.max(way.get(0), 0);
        }
        if (k >= way.size() || x.edges.get(way.get(k)).back) {
            return NONE;
        }
        return x.edges.get(way.get(k)).to;
    }

    long along(int r, long n, int k) {
        Routine x = finishedAt(r);
        if (x == null || n < 0 || n >= x.ways.size() || k < 0) {
            return NONE;
        }
        List<Integer> way = x.ways.get((int) n);
        return k >= way.size() - 1 ? NONE : way.get(k + 1);
    }

    long table(int r, int k, int what) {
        Routine x = finishedAt(r);
        if (x == null || k < 0 || k >= x.rows.size() || what < 0 || what > 1) {
            return NONE;
        }
        return what == 0 ? x.rows.get(k) : x.times.get(x.rows.get(k));
    }

    long told(int r, int edge) {
        Edge e = edgeAt(r, edge);
        if (e == null || !at(r).finished) {
            return NONE;
        }
        long sum = 0;
        for (int number : at(r).rows) {
            List<Integer> way = at(r).ways.get(number);
            sum += way.subList(1, way.size()).contains(edge) ? at(r).times.get(number) : 0;
        }
        return sum;
    }

    long blur(int r, int edge, int v) {
        Edge e = edgeAt(r, edge);
        if (e == null || v < 0 || v > 1000000) {
            return 0;
        }
        e.blurred = v;
        return 1;
    }

    /** From no counts at all, which are always right, by rings of changes that make it better. */
    long mend(int r) {
        Routine x = finishedAt(r);
        if (x == null) {
            return NONE;
        }
        List<int[]> links = x.links();
        long[] counts = new long[links.size()];
        while (betterByRing(x, links, counts)) {
            continue;
        }
        long sum = 0;
        for (Edge e : x.edges) {
            sum += Math.abs(counts[e.number] - e.blurred);
        }
        return sum;
    }

    private static boolean betterByRing(Routine x, List<int[]> links, long[] counts) {
        int n = x.blocks.size() + 1;
        long[] far = new long[n];
        int[] by = new int[n];
        Arrays.fill(by, -1);
        int last = -1;
        for (int pass = 0; pass < n; pass++) {
            last = -1;
            for (int i = 0; i < 2 * links.size(); i++) {
                int[] link = links.get(i / 2);
                int a = i % 2 == 0 ? link[0] : link[1];
                int b = i % 2 == 0 ? link[1] : link[0];
                if (roomOf(x, link, counts[i / 2], i % 2 == 0) > 0
                        && far[a] + costOf(x, link, counts[i / 2], i % 2 == 0) < far[b]) {
                    far[b] = far[a] + costOf(x, link, counts[i / 2], i % 2 == 0);
                    by[b] = i;
                    last = b;
                }
            }
        }
        if (last < 0) {
            return false;
        }
        for (int i = 0; i < n; i++) {
            last = startOf(links, by[last]);
        }
        long room = Long.MAX_VALUE;
        int node = last;
        do {
            room = Math.min(room, roomOf(x, links.get(by[node] / 2), counts[by[node] / 2], by[node] % 2 == 0));
            node = startOf(links, by[node]);
        } while (node != last);
        do {
            counts[by[node] / 2] += by[node] % 2 == 0 ? room : -room;
            node = startOf(links, by[node]);
        } while (node != last);
        return true;
    }

    private static int startOf(List<int[]> links, int i) {
        return links.get(i / 2)[i % 2 == 0 ? 0 : 1];
    }

    private static long costOf(Routine x, int[] link, long count, boolean more) {
        if (link[2] < 0) {
            return 0;
        }
        long blurred = x.edges.get(link[2]).blurred;
        return more ? (count < blurred ? -1 : 1) : count > blurred ? -1 : 1;
    }

    private static long roomOf(Routine x, int[] link, long count, boolean more) {
        if (link[2] < 0) {
            return more ? 1000000000L : count;
        }
        long blurred = x.edges.get(link[2]).blurred;
        if (more) {
            return count < blurred ? blurred - count : 1000000000L;
        }
        return count > blurred ? count - blurred : count;
    }
}
