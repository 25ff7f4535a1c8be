import java.math.BigInteger;
import java.util.ArrayList;
import java.util.List;

/**
 * The document once more, for ModelTest: written apart from the class, with lists of what happened
 * instead of tables, and without care for speed.
 */
final class Model {
    private static final int BAD = -1, NONE = -2, FULL = -3, TURN = -4;

    private record Draw(int account, int v, int due) { }

    private static final class Node {
        final int keeper, cut;
        String state = "OUT";
        boolean frozen = false;
        int due = NONE;
        final int[] stakes = new int[10];

        Node(int keeper, int cut) {
            this.keeper = keeper;
            this.cut = cut;
        }

        int all() {
            return sum(stakes);
        }
    }

    private static final class Fixed {
        final int[] weights = new int[8];
        final int[][] stakes = new int[8][];
        final int[] rewards = new int[8];
    }

    private final List<Node> nodes = new ArrayList<>();
    private final List<Draw> draws = new ArrayList<>();
    private final List<Fixed> sets = new ArrayList<>(List.of(new Fixed()));
    private final int[] balances = new int[10];
    private final int[] rules = {2, 100, 10, 1_000_000};
    private int funded = 0;

    private static int sum(int[] row) {
        int all = 0;
        for (int v : row) all += v;
        return all;
    }

    private int height() {
        return sets.size() - 1;
    }

    private boolean noAccount(int a) {
        return a < 0 || a > 9;
    }

    private boolean noNode(int n) {
        return n < 0 || n >= nodes.size();
    }

    private boolean noHeight(int h) {
        return h < 0 || h >= sets.size();
    }

    private boolean otherBits(int bits) {
        return bits < 0 || bits >= 1 << nodes.size();
    }

    int rule(int what, int v) {
        if (what < 0 || what > 3) return BAD;
        int least = what == 1 ? 0 : 1;
        int most = what == 0 ? 9 : what == 1 ? 10_000 : what == 2 ? 50 : 1_000_000;
        if (v < least || v > most) return BAD;
        if (height() > 0) return TURN;
        int was = rules[what];
        rules[what] = v;
        return was;
    }

    int fund(int account, int v) {
        if (noAccount(account) || v < 1 || v > 100_000) return BAD;
        if (funded + v > 1_000_000) return FULL;
        funded += v;
        return balances[account] += v;
    }

    int node(int keeper, int cut) {
        if (noAccount(keeper) || cut < 0 || cut > 100) return BAD;
        if (nodes.size() == 8) return FULL;
        nodes.add(new Node(keeper, cut));
        return nodes.size() - 1;
    }

    int stake(int account, int node, int v) {
        if (noAccount(account) || noNode(node) || v < 1 || v > 1_000_000) return BAD;
        if (balances[account] < v) return FULL;
        balances[account] -= v;
        return nodes.get(node).stakes[account] += v;
    }

    int draw(int account, int node, int v) {
        if (noAccount(account) || noNode(node) || v < 1 || v > 1_000_000) return BAD;
        Node n = nodes.get(node);
        if (n.stakes[account] < v) return FULL;
        if (n.frozen) return TURN;
        draws.add(new Draw(account, v, height() + rules[0]));
        return n.stakes[account] -= v;
    }

    int join(int node) {
        if (noNode(node)) return BAD;
        Node n = nodes.get(node);
        if (!n.state.equals("OUT")) return TURN;
        n.state = "JOINS";
        return height() + 1;
    }

    int leave(int node) {
        if (noNode(node)) return BAD;
        Node n = nodes.get(node);
        if (!n.state.equals("IN") || n.frozen) return TURN;
        n.state = "LEAVES";
        n.due = height() + rules[0];
        return n.due;
    }

    int freeze(int node, boolean on) {
        if (noNode(node)) return BAD;
        boolean was = nodes.get(node).frozen;
        nodes.get(node).frozen = on;
        return was ? 1 : 0;
    }

    int advance(int n) {
        if (n < 1 || n > 100) return BAD;
        if (height() + n > 100) return FULL;
        for (int i = 0; i < n; i++) next();
        return height();
    }

    private void next() {
        Fixed last = sets.get(height());
        if (sum(last.weights) > 0) {
            BigInteger pot = BigInteger.valueOf(rules[1]).divide(BigInteger.TWO.pow(height() / rules[2]));
            System.arraycopy(shared(pot.intValue(), last.weights), 0, last.rewards, 0, 8);
            for (int i = 0; i < nodes.size(); i++) {
                int cut = last.rewards[i] * nodes.get(i).cut / 100;
                balances[nodes.get(i).keeper] += cut;
                if (last.weights[i] == 0) continue;
                int[] parts = shared(last.rewards[i] - cut, last.stakes[i]);
                for (int a = 0; a < 10; a++) balances[a] += parts[a];
            }
        }
        int h = height() + 1;
        for (Draw d : draws) if (d.due == h) balances[d.account] += d.v;
        for (Node n : nodes) {
            if (n.state.equals("LEAVES") && n.due == h) {
                n.state = "OUT";
                n.due = NONE;
            }
        }
        for (Node n : nodes) if (n.state.equals("JOINS")) n.state = "IN";
        sets.add(fixed());
    }

    private Fixed fixed() {
        Fixed set = new Fixed();
        for (int i = 0; i < nodes.size(); i++) {
            Node n = nodes.get(i);
            boolean inside = n.state.equals("IN") || n.state.equals("LEAVES");
            if (inside && !n.frozen) set.weights[i] = Math.min(n.all(), rules[3]);
            set.stakes[i] = n.stakes.clone();
        }
        return set;
    }

    private static int[] shared(int amount, int[] parts) {
        BigInteger all = BigInteger.valueOf(sum(parts));
        int[] has = new int[parts.length];
        List<Integer> byRest = new ArrayList<>();
        BigInteger[] rests = new BigInteger[parts.length];
        for (int i = 0; i < parts.length; i++) {
            BigInteger[] whole = BigInteger.valueOf(amount).multiply(BigInteger.valueOf(parts[i])).divideAndRemainder(all);
            has[i] = whole[0].intValue();
            rests[i] = whole[1];
            byRest.add(i);
        }
        // A list's sort keeps like ones in their order, so the least number stays ahead.
        byRest.sort((i, k) -> rests[k].compareTo(rests[i]));
        int left = amount - sum(has);
        for (int i = 0; i < left; i++) has[byRest.get(i)]++;
        return has;
    }

    int balance(int account) {
        return noAccount(account) ? BAD : balances[account];
    }

    int staked(int account, int node) {
        if (noAccount(account)) return BAD;
        if (node == -1) {
            int all = 0;
            for (Node n : nodes) all += n.stakes[account];
            return all;
        }
        return noNode(node) ? BAD : nodes.get(node).stakes[account];
    }

    int drawn(int account, int height) {
        if (noAccount(account)) return BAD;
        if (height != -1 && (height < 1 || height > 109)) return BAD;
        int all = 0;
        for (Draw d : draws) {
            boolean waits = d.due > height();
            if (d.account == account && waits && (height == -1 || d.due == height)) all += d.v;
        }
        return all;
    }

    int about(int node, int what) {
        if (noNode(node) || what < 0 || what > 5) return BAD;
        Node n = nodes.get(node);
        int[] answers = {
            List.of("OUT", "JOINS", "IN", "LEAVES").indexOf(n.state), n.frozen ? 1 : 0, n.due, n.keeper, n.cut, n.all()};
        return answers[what];
    }

    int weight(int node, int height) {
        if (noHeight(height) || (node != -1 && noNode(node))) return BAD;
        int[] weights = sets.get(height).weights;
        return node == -1 ? sum(weights) : weights[node];
    }

    int reward(int node, int height) {
        if (height < 0 || height >= height() || (node != -1 && noNode(node))) return BAD;
        int[] rewards = sets.get(height).rewards;
        return node == -1 ? sum(rewards) : rewards[node];
    }

    private int weightOf(int height, int bits) {
        int all = 0;
        for (int i = 0; i < 8; i++) if ((bits & 1 << i) != 0) all += sets.get(height).weights[i];
        return all;
    }

    int judge(int height, int bits) {
        if (noHeight(height) || otherBits(bits)) return BAD;
        return 3 * weightOf(height, bits) > 2 * weightOf(height, 255) ? 1 : 0;
    }

    int jump(int from, int to, int bits) {
        if (noHeight(from) || noHeight(to) || from >= to || otherBits(bits)) return BAD;
        return judge(to, bits) == 1 && 3 * weightOf(from, bits) > weightOf(from, 255) ? 1 : 0;
    }

    int overlap(int a, int b) {
        if (noHeight(a) || noHeight(b)) return BAD;
        int all = 0;
        for (int i = 0; i < 8; i++) all += Math.min(sets.get(a).weights[i], sets.get(b).weights[i]);
        return all;
    }

    private boolean hop(int from, int to) {
        int bits = 0;
        for (int i = 0; i < 8; i++) if (sets.get(to).weights[i] > 0) bits |= 1 << i;
        return jump(from, to, bits) == 1;
    }

    int way(int from, int to, int i) {
        if (noHeight(from) || noHeight(to) || from >= to) return BAD;
        List<Integer> best = bestWay(from, to);
        if (best == null) return NONE;
        if (i == -1) return best.size() - 1;
        return i < 0 || i >= best.size() ? BAD : best.get(i);
    }

    /** Forward: the best way of each length to every height, as whole lists; the first length that reaches the goal. */
    private List<Integer> bestWay(int from, int to) {
        List<List<Integer>> ways = new ArrayList<>();
        for (int h = 0; h <= to; h++) ways.add(h == from ? List.of(from) : null);
        for (int jumps = 1; jumps <= to - from; jumps++) {
            List<List<Integer>> longer = new ArrayList<>();
            for (int h = 0; h <= to; h++) longer.add(h > from ? greatestBefore(ways, h) : null);
            if (longer.get(to) != null) return longer.get(to);
            ways = longer;
        }
        return null;
    }

    private List<Integer> greatestBefore(List<List<Integer>> ways, int h) {
        List<Integer> best = null;
        for (int g = 0; g < h; g++) {
            if (ways.get(g) == null || !hop(g, h)) continue;
            List<Integer> one = new ArrayList<>(ways.get(g));
            one.add(h);
            if (best == null || isGreater(one, best)) best = one;
        }
        return best;
    }

    private static boolean isGreater(List<Integer> one, List<Integer> other) {
        for (int i = 0; i < one.size(); i++) {
            int order = Integer.compare(one.get(i), other.get(i));
            if (order != 0) return order > 0;
        }
        return false;
    }

    int count(int what) {
        if (what < 0 || what > 10) return BAD;
        if (what >= 7) return rules[what - 7];
        int rewarded = 0;
        for (Fixed set : sets) rewarded += sum(set.rewards);
        int stakes = 0;
        for (Node n : nodes) stakes += n.all();
        int waiting = 0;
        for (Draw d : draws) if (d.due > height()) waiting += d.v;
        int[] answers = {height(), nodes.size(), funded, rewarded, sum(balances), stakes, waiting};
        return answers[what];
    }
}
