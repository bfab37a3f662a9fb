import java.util.Random;

/** Random runs of calls, right and wrong ones, on the program and on the model alike. */
public final class ModelTest {
    private static final int OBJECTS = 3000;
    private static final int CALLS = 512;
    private static final int MOST_WAYS = 2000;

    private final Random random;
    private final CounterPlacer x = new CounterPlacer();
    private final Model m = new Model();
    private final StringBuilder trace = new StringBuilder();
    private final int run;
    private int calls;

    private ModelTest(int run) {
        this.run = run;
        random = new Random(run);
    }

    public static void main(String[] args) {
        for (int run = 0; run < OBJECTS && Check.wrongSoFar() == 0; run++) {
            new ModelTest(run).play();
        }
        Check.end("ModelTest");
    }

    private void play() {
        int wanted = 1 + random.nextInt(8);
        for (int i = 0; i < wanted && calls < CALLS / 2; i++) {
            buildRoutine();
        }
        while (calls < CALLS && Check.wrongSoFar() == 0) {
            anyCall();
        }
        if (Check.wrongSoFar() != 0) {
            System.out.println("run " + run + ":\n" + trace);
        }
    }

    private void due(String call, long got, long want) {
        calls++;
        trace.append(call).append(" -> ").append(got).append('\n');
        Check.due("run " + run + ", call " + calls + ": " + call, got, want);
    }

    /** Mostly a good routine: edges ahead, back ones to lesser blocks, an end behind all. */
    private void buildRoutine() {
        due("routine()", x.routine(), m.routine());
        int r = m.routines.size() - 1;
        int blocks = 1 + random.nextInt(random.nextInt(4) == 0 ? 20 : 7);
        for (int b = 0; b < blocks; b++) {
            int kind = b == blocks - 1 ? 3 + random.nextInt(2) : usualKind();
            addBlock(r, kind, random.nextInt(8));
        }
        boolean sloppy = random.nextInt(8) == 0;
        for (int b = 0; b < blocks; b++) {
            int kind = m.at(r).blocks.get(b).kind;
            int outs = kind == 1 ? 2 + random.nextInt(3) : kind < 3 ? 1 : 0;
            for (int k = 0; k < outs; k++) {
                boolean ahead = k == 0 || random.nextInt(3) > 0;
                int to = ahead ? Math.min(blocks - 1, b + 1 + random.nextInt(3)) : random.nextInt(b + 1);
                if (sloppy) {
                    to = random.nextInt(blocks);
                }
                boolean back = to <= b ? random.nextInt(20) > 0 : random.nextInt(12) == 0;
                addEdge(r, b, k == 0 && !sloppy ? b + 1 : to, guessed(), back);
            }
        }
        finishIfSmall(r);
    }

    private int usualKind() {
        int[] kinds = {0, 1, 1, 1, 1, 2, 2, 3, 4};
        int kind = kinds[random.nextInt(kinds.length)];
        return kind >= 3 && random.nextInt(2) == 0 ? 1 : kind;
    }

    private int guessed() {
        return random.nextInt(3) == 0 ? random.nextInt(1000001) : random.nextInt(6);
    }

    private void finishIfSmall(int r) {
        Model.Routine routine = m.at(r);
        // the model lays all ways out: only where there are few of them, and rings would not end
        if (routine == null || routine.finished || new Bound(routine).ways() <= MOST_WAYS) {
            due("finish(" + r + ")", x.finish(r), m.finish(r));
        }
    }

    private void addBlock(int r, int kind, int call) {
        due("block(" + r + ", " + kind + ", " + call + ")", x.block(r, kind, call), m.block(r, kind, call));
    }

    private void addEdge(int r, int from, int to, int guess, boolean back) {
        due("edge(" + r + ", " + from + ", " + to + ", " + guess + ", " + back + ")",
                x.edge(r, from, to, guess, back), m.edge(r, from, to, guess, back));
    }

    private int anyRoutine() {
        return random.nextInt(12) == 0 ? odd() : random.nextInt(Math.max(1, m.routines.size()));
    }

    private int anyEdge(int r) {
        boolean wrong = random.nextInt(15) == 0 || m.at(r) == null || m.at(r).edges.isEmpty();
        return wrong ? odd() : random.nextInt(m.at(r).edges.size());
    }

    private int anyBlock(int r) {
        boolean wrong = random.nextInt(15) == 0 || m.at(r) == null || m.at(r).blocks.isEmpty();
        return wrong ? odd() : random.nextInt(m.at(r).blocks.size());
    }

    private int odd() {
        int[] odd = {-1, -2, 8, 7, 20, 19, 40, 39, 61, 1000000, 1000001, Integer.MAX_VALUE, Integer.MIN_VALUE};
        return odd[random.nextInt(odd.length)];
    }

    private int small(int most) {
        return random.nextInt(20) == 0 ? odd() : random.nextInt(most + 1);
    }

    private void anyCall() {
        int r = anyRoutine();
        switch (random.nextInt(24)) {
            case 0: due("routine()", x.routine(), m.routine()); break;
            case 1: addBlock(r, small(4), small(7)); break;
            case 2: addEdge(r, anyBlock(r), anyBlock(r), small(9), random.nextBoolean()); break;
            case 3: guessCall(r, anyEdge(r), small(9)); break;
            case 4: finishIfSmall(r); break;
            case 5: due("plan(" + r + ")", x.plan(r), m.plan(r)); break;
            case 6: case 7: look(r, small(9)); break;
            case 8: case 9: ofEdge(r, anyEdge(r), small(9)); break;
            case 10: ofBlock(r, anyBlock(r), small(8)); break;
            case 11: case 12: solve(r, anyEdge(r)); break;
            case 13: ring(r, anyEdge(r), anyEdge(r)); break;
            case 14: due("begin(" + r + ")", x.begin(r) ? 1 : 0, m.begin(r)); break;
            case 15: case 16: case 17: walkOn(); break;
            case 18: ofRun(small(5)); break;
            case 19: wayOrAlong(r); break;
            case 20: tableCall(r, small(3), small(1)); break;
            case 21: toldCall(r, anyEdge(r)); break;
            case 22: blurSome(r); break;
            default: due("mend(" + r + ")", x.mend(r), m.mend(r)); break;
        }
    }

    private void ofRun(int what) {
        due("run(" + what + ")", x.run(what), m.run(what));
    }

    private void guessCall(int r, int e, int g) {
        due("guess(" + r + ", " + e + ", " + g + ")", x.guess(r, e, g) ? 1 : 0, m.guess(r, e, g));
    }

    private void look(int r, int what) {
        due("look(" + r + ", " + what + ")", Check.look(x, r, what), m.look(r, what));
    }

    private void ofEdge(int r, int e, int what) {
        due("ofEdge(" + r + ", " + e + ", " + what + ")", Check.ofEdge(x, r, e, what), m.ofEdge(r, e, what));
    }

    private void ofBlock(int r, int b, int what) {
        due("ofBlock(" + r + ", " + b + ", " + what + ")", Check.ofBlock(x, r, b, what), m.ofBlock(r, b, what));
    }

    private void solve(int r, int e) {
        due("solve(" + r + ", " + e + ")", x.solve(r, e), m.solve(r, e));
    }

    private void ring(int r, int c, int e) {
        due("ring(" + r + ", " + c + ", " + e + ")", x.ring(r, c, e), m.ring(r, c, e));
    }

    private void walkOn() {
        int n = random.nextInt(3) == 0 ? small(10000) : small(12);
        int choices = random.nextInt();
        due("go(" + n + ", " + choices + ")", x.go(n, choices), m.go(n, choices));
    }

    private void wayOrAlong(int r) {
        int ways = m.at(r) == null ? 0 : m.at(r).ways.size();
        long n = random.nextInt(10) == 0 || ways == 0 ? odd() * 5000000000L : random.nextInt(ways + 1);
        int k = small(5);
        if (random.nextBoolean()) {
            due("way(" + r + ", " + n + ", " + k + ")", x.way(r, n, k), m.way(r, n, k));
        } else {
            due("along(" + r + ", " + n + ", " + k + ")", x.along(r, n, k), m.along(r, n, k));
        }
    }

    private void tableCall(int r, int k, int what) {
        due("table(" + r + ", " + k + ", " + what + ")", x.table(r, k, what), m.table(r, k, what));
    }

    private void toldCall(int r, int e) {
        due("told(" + r + ", " + e + ")", x.told(r, e), m.told(r, e));
    }

    private void blurSome(int r) {
        for (int i = 0; i < 6; i++) {
            int e = anyEdge(r);
            int v = random.nextInt(4) == 0 ? random.nextInt(1000001) : small(9);
            due("blur(" + r + ", " + e + ", " + v + ")", x.blur(r, e, v) ? 1 : 0, m.blur(r, e, v));
        }
    }

    /** Counts ways without being led in rings, as long as there are few. */
    private static final class Bound {
        private final Model.Routine routine;
        private long steps;

        Bound(Model.Routine routine) {
            this.routine = routine;
        }

        long ways() {
            long sum = 0;
            for (int b = 0; b < routine.blocks.size() && sum <= MOST_WAYS; b++) {
                sum += b == 0 || routine.isHead(b) ? from(b, 0) : 0;
                sum += b == 0 && routine.isHead(b) ? from(b, 0) : 0;
            }
            return sum;
        }

        private long from(int block, int depth) {
            steps++;
            // a ring: finish() refuses it before any way is laid out
            if (depth > 40) {
                return 0;
            }
            if (steps > 200000) {
                return MOST_WAYS + 1;
            }
            Model.Block b = routine.blocks.get(block);
            long sum = b.kind >= 3 ? 1 : 0;
            for (Model.Edge e : b.out) {
                sum += e.back ? 1 : from(e.to, depth + 1);
                if (sum > MOST_WAYS) {
                    return sum;
                }
            }
            return sum;
        }
    }
}
