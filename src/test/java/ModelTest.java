import java.util.Random;

/** Runs of at most 512 calls on new objects, each answer against the model's; the seeds are fixed, so each run is the same. */
public final class ModelTest {
    private static final int RUNS = 1500, CALLS = 512;
    private static final int[] ODD = {Integer.MIN_VALUE, -1000, -2, -1, 0, 1, 7, 8, 9, 10, 11, 50, 51, 99, 100, 101, 109, 110, 255, 256,
        10_000, 10_001, 100_000, 100_001, 1_000_000, 1_000_001, Integer.MAX_VALUE};
    private static final Check CHECK = new Check("ModelTest");

    private final Random random;
    private final NodeWeights x = new NodeWeights();
    private final Model model = new Model();
    private final boolean calm;
    private final int stakeMost;
    private int longestWay = 0;

    private ModelTest(int seed) {
        random = new Random(seed);
        calm = seed % 3 == 0;
        stakeMost = seed % 2 == 0 ? 12 : 60_000;
    }

    public static void main(String[] args) {
        int longest = 0;
        for (int seed = 0; seed < RUNS && CHECK.isClean(); seed++) {
            ModelTest run = new ModelTest(seed);
            run.begin();
            for (int i = 0; i < CALLS - 80; i++) run.call();
            longest = Math.max(longest, run.longestWay);
        }
        // A run of the test that never needs several jumps would say nothing of ways.
        CHECK.holds("a way of three jumps or more was met", longest >= 3);
        CHECK.end();
    }

    private int below(int n) {
        return random.nextInt(n);
    }

    private int oddOr(int v) {
        return below(40) == 0 ? ODD[below(ODD.length)] : v;
    }

    private int account() {
        return oddOr(below(10));
    }

    private int node() {
        return oddOr(below(Math.max(1, model.count(1))));
    }

    private int nodeOrAll() {
        return below(4) == 0 ? -1 : node();
    }

    private int height() {
        return oddOr(below(model.count(0) + 1));
    }

    private int bits() {
        return oddOr(below(4) == 0 ? (1 << model.count(1)) - 1 : below(1 << model.count(1)));
    }

    /** At most 80 calls: some NODES with STAKES that JOIN, so that most runs have SETS with weights. */
    private void begin() {
        for (int i = below(4); i > 0; i--) told("rule");
        int nodes = 1 + below(8);
        for (int i = 0; i < nodes; i++) told("node");
        for (int i = 0; i < 2 * nodes; i++) told("fund");
        for (int i = 0; i < 2 * nodes; i++) told("stake");
        for (int i = 0; i < nodes; i++) told("join");
    }

    private void call() {
        String[] tell = {"rule", "fund", "node", "stake", "stake", "draw", "draw", "join", "leave",
            "freeze", "freeze", "freeze", "advance", "advance", "advance"};
        if (below(2) == 0) told(tell[below(tell.length)]);
        else asked();
    }

    private void due(String what, int got, int want) {
        CHECK.due(what, got, want);
    }

    private void told(String what) {
        int a = account();
        int n = node();
        switch (what) {
            case "rule" -> {
                int r = oddOr(below(4));
                int v = oddOr(r == 0 ? 1 + below(9) : r == 1 ? below(10_001) : r == 2 ? 1 + below(50) : 1 + below(stakeMost));
                due("rule(" + r + ", " + v + ")", x.rule(r, v), model.rule(r, v));
            }
            case "fund" -> {
                int v = oddOr(1 + below(below(3) == 0 ? 100_000 : stakeMost));
                due("fund(" + a + ", " + v + ")", x.fund(a, v), model.fund(a, v));
            }
            case "node" -> {
                int cut = oddOr(below(101));
                due("node(" + a + ", " + cut + ")", x.node(a, cut), model.node(a, cut));
            }
            case "stake" -> {
                int v = oddOr(1 + below(stakeMost));
                due("stake(" + a + ", " + n + ", " + v + ")", x.stake(a, n, v), model.stake(a, n, v));
            }
            case "draw" -> {
                int has = Math.max(0, model.staked(a, n));
                int v = oddOr(below(3) == 0 ? has + below(2) : 1 + below(Math.max(1, has)));
                due("draw(" + a + ", " + n + ", " + v + ")", x.draw(a, n, v), model.draw(a, n, v));
            }
            case "join" -> due("join(" + n + ")", x.join(n), model.join(n));
            case "leave" -> {
                if (calm || below(3) == 0) due("leave(" + n + ")", x.leave(n), model.leave(n));
            }
            case "freeze" -> {
                boolean on = below(2) == 0;
                due("freeze(" + n + ", " + on + ")", x.freeze(n, on), model.freeze(n, on));
            }
            default -> {
                int by = oddOr(below(12) == 0 ? 1 + below(6) : 1);
                due("advance(" + by + ")", x.advance(by), model.advance(by));
            }
        }
    }

    private void asked() {
        int a = account();
        int n = nodeOrAll();
        int h = height();
        int g = height();
        int bits = bits();
        switch (below(12)) {
            case 0 -> due("balance(" + a + ")", x.balance(a), model.balance(a));
            case 1 -> due("staked(" + a + ", " + n + ")", x.staked(a, n), model.staked(a, n));
            case 2 -> {
                int when = below(4) == 0 ? -1 : oddOr(h + below(10));
                due("drawn(" + a + ", " + when + ")", x.drawn(a, when), model.drawn(a, when));
            }
            case 3 -> {
                int what = oddOr(below(6));
                due("about(" + n + ", " + what + ")", x.about(n, what), model.about(n, what));
            }
            case 4 -> due("weight(" + n + ", " + h + ")", x.weight(n, h), model.weight(n, h));
            case 5 -> due("reward(" + n + ", " + h + ")", x.reward(n, h), model.reward(n, h));
            case 6 -> due("judge(" + h + ", " + bits + ")", x.judge(h, bits), model.judge(h, bits));
            case 7 -> due("jump(" + g + ", " + h + ", " + bits + ")", x.jump(g, h, bits), model.jump(g, h, bits));
            case 8 -> due("overlap(" + g + ", " + h + ")", x.overlap(g, h), model.overlap(g, h));
            case 9, 10 -> askWay(Math.min(g, h), Math.max(g, h));
            default -> {
                int what = oddOr(below(11));
                due("count(" + what + ")", x.count(what), model.count(what));
            }
        }
    }

    private void askWay(int from, int to) {
        int i = oddOr(below(5) - 1);
        int want = model.way(from, to, i);
        due("way(" + from + ", " + to + ", " + i + ")", x.way(from, to, i), want);
        if (i == -1) longestWay = Math.max(longestWay, want);
    }
}
