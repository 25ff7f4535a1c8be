/**
 * Sets of nodes with weights that change height by height.
 * The words in capitals are those of the document; answers are tested in the order in which it lists them.
 */
public final class NodeWeights {
    public static final int BAD = -1, NONE = -2, FULL = -3, TURN = -4;

    private static final int ACCOUNTS = 10, NODES = 8;
    private static final int TOP = 100, LAST_DUE = 109;
    private static final int IN_ALL = -1;
    private static final int HUNDREDTHS = 100;
    private static final int MOST_A_FUND = 100_000, MOST_FUNDED = 1_000_000, MOST_MOVED = 1_000_000;
    // No REWARD has more binary digits than this; shifts beyond 31 would wrap around.
    private static final int MOST_HALVINGS = 30;

    private static final int WAIT = 0, REWARD = 1, HALVING = 2, BOUND = 3, RULES = 4;
    private static final int[] RULE_LEAST = {1, 0, 1, 1};
    private static final int[] RULE_MOST = {9, 10_000, 50, 1_000_000};

    private static final int OUT = 0, JOINS = 1, IN = 2, LEAVES = 3;

    // HEIGHT; the face's parameters bear that name already.
    private int now;
    private final int[] rules;
    private final Book book;
    private final Nodes nodes;
    private final Sets sets;
    private final Sharer sharer;
    private final Ways ways;

    public NodeWeights() {
        now = 0;
        rules = new int[] {2, 100, 10, 1_000_000};
        book = new Book();
        nodes = new Nodes();
        sets = new Sets();
        sharer = new Sharer();
        ways = new Ways();
    }

    // ---- what is told

    public int rule(int what, int v) {
        if (what < 0 || what >= RULES) return BAD;
        if (!isWithin(v, RULE_LEAST[what], RULE_MOST[what])) return BAD;
        if (now > 0) return TURN;
        int was = rules[what];
        rules[what] = v;
        return was;
    }

    public int fund(int account, int v) {
        if (!isAccount(account) || !isWithin(v, 1, MOST_A_FUND)) return BAD;
        if (book.funded + v > MOST_FUNDED) return FULL;
        book.funded += v;
        book.balance[account] += v;
        return book.balance[account];
    }

    public int node(int keeper, int cut) {
        if (!isAccount(keeper) || !isWithin(cut, 0, HUNDREDTHS)) return BAD;
        if (nodes.size >= NODES) return FULL;
        return nodes.open(keeper, cut);
    }

    public int stake(int account, int node, int v) {
        if (!isMove(account, node, v)) return BAD;
        if (book.balance[account] < v) return FULL;
        book.balance[account] -= v;
        int place = stakePlace(node, account);
        book.stakes[place] += v;
        return book.stakes[place];
    }

    public int draw(int account, int node, int v) {
        if (!isMove(account, node, v)) return BAD;
        int place = stakePlace(node, account);
        if (book.stakes[place] < v) return FULL;
        if (nodes.frozen[node]) return TURN;
        book.stakes[place] -= v;
        book.due[duePlace(account, now + rules[WAIT])] += v;
        return book.stakes[place];
    }

    public int join(int node) {
        if (!nodes.has(node)) return BAD;
        if (nodes.state[node] != OUT) return TURN;
        nodes.state[node] = JOINS;
        return now + 1;
    }

    public int leave(int node) {
        if (!nodes.has(node)) return BAD;
        if (nodes.state[node] != IN || nodes.frozen[node]) return TURN;
        nodes.state[node] = LEAVES;
        nodes.leavesAt[node] = now + rules[WAIT];
        return nodes.leavesAt[node];
    }

    public int freeze(int node, boolean on) {
        if (!nodes.has(node)) return BAD;
        int was = nodes.frozen[node] ? 1 : 0;
        nodes.frozen[node] = on;
        return was;
    }

    public int advance(int n) {
        if (!isWithin(n, 1, TOP)) return BAD;
        if (now + n > TOP) return FULL;
        for (int i = 0; i < n; i++) beginNextHeight();
        return now;
    }

    // ---- what is there

    public int balance(int account) {
        return isAccount(account) ? book.balance[account] : BAD;
    }

    public int staked(int account, int node) {
        if (!isAccount(account)) return BAD;
        if (node == IN_ALL) return book.stakesOfAccount(account);
        return nodes.has(node) ? book.stakes[stakePlace(node, account)] : BAD;
    }

    public int drawn(int account, int height) {
        if (!isAccount(account)) return BAD;
        if (height == IN_ALL) return book.dueOfAccount(account);
        return isWithin(height, 1, LAST_DUE) ? book.due[duePlace(account, height)] : BAD;
    }

    public int about(int node, int what) {
        if (!nodes.has(node)) return BAD;
        switch (what) {
            case 0: return nodes.state[node];
            case 1: return nodes.frozen[node] ? 1 : 0;
            case 2: return nodes.leavesAt[node];
            case 3: return nodes.keeper[node];
            case 4: return nodes.cut[node];
            case 5: return book.stakesOfNode(node);
            default: return BAD;
        }
    }

    public int weight(int node, int height) {
        if (!hasSet(height)) return BAD;
        if (node == IN_ALL) return sets.all[height];
        return nodes.has(node) ? sets.weights[setPlace(height, node)] : BAD;
    }

    public int reward(int node, int height) {
        if (!isWithin(height, 0, now - 1)) return BAD;
        if (node == IN_ALL) return sets.rewardsOf(height);
        return nodes.has(node) ? sets.rewards[setPlace(height, node)] : BAD;
    }

    // ---- certificates, jumps

    public int judge(int height, int bits) {
        if (!hasSet(height) || !nodes.haveAll(bits)) return BAD;
        return sets.isGood(height, bits) ? 1 : 0;
    }

    public int jump(int from, int to, int bits) {
        if (!isUpward(from, to) || !nodes.haveAll(bits)) return BAD;
        return sets.allowsJump(from, to, bits) ? 1 : 0;
    }

    public int overlap(int a, int b) {
        if (!hasSet(a) || !hasSet(b)) return BAD;
        return sets.commonWeight(a, b);
    }

    public int way(int from, int to, int i) {
        if (!isUpward(from, to)) return BAD;
        ways.plan(sets, from, to);
        int jumps = ways.jumps[from];
        if (jumps == NONE) return NONE;
        if (i == IN_ALL) return jumps;
        return isWithin(i, 0, jumps) ? ways.heightAt(from, to, i) : BAD;
    }

    public int count(int what) {
        switch (what) {
            case 0: return now;
            case 1: return nodes.size;
            case 2: return book.funded;
            case 3: return book.rewarded;
            case 4: return book.allBalances();
            case 5: return book.allStakes();
            case 6: return book.allDue();
            case 7: return rules[WAIT];
            case 8: return rules[REWARD];
            case 9: return rules[HALVING];
            case 10: return rules[BOUND];
            default: return BAD;
        }
    }

    // ---- what calls may name

    private static boolean isWithin(int v, int least, int most) {
        return v >= least && v <= most;
    }

    private static boolean isAccount(int account) {
        return isWithin(account, 0, ACCOUNTS - 1);
    }

    private boolean isMove(int account, int node, int v) {
        return isAccount(account) && nodes.has(node) && isWithin(v, 1, MOST_MOVED);
    }

    private boolean hasSet(int h) {
        return isWithin(h, 0, now);
    }

    private boolean isUpward(int from, int to) {
        return hasSet(from) && hasSet(to) && from < to;
    }

    // ---- where things stand in the flat rows (one row instead of many keeps the objects few)

    private static int stakePlace(int node, int account) {
        return node * ACCOUNTS + account;
    }

    private static int duePlace(int account, int h) {
        return account * (LAST_DUE + 1) + h;
    }

    private static int setPlace(int h, int node) {
        return h * NODES + node;
    }

    // ---- a new HEIGHT

    private void beginNextHeight() {
        giveRewards();
        now++;
        book.payDue(now);
        nodes.settle(now);
        fixSet();
    }

    private void giveRewards() {
        if (sets.all[now] <= 0) return;
        int first = setPlace(now, 0);
        sharer.split(pot(), sets.weights, first, NODES);
        // The sharer's row is used again for each NODE's ACCOUNTS, so the NODES' parts are kept first.
        System.arraycopy(sharer.given, 0, sets.rewards, first, NODES);
        for (int node = 0; node < nodes.size; node++) {
            payNode(node, sets.rewards[first + node]);
        }
    }

    private int pot() {
        int halving = rules[HALVING];
        if (halving < 1) return 0;
        int halvings = now / halving;
        return halvings > MOST_HALVINGS ? 0 : rules[REWARD] >> halvings;
    }

    private void payNode(int node, int amount) {
        int kept = amount * nodes.cut[node] / HUNDREDTHS;
        book.balance[nodes.keeper[node]] += kept;
        sharer.split(amount - kept, sets.fixedStakes, stakePlace(node, 0), ACCOUNTS);
        for (int account = 0; account < ACCOUNTS; account++) {
            book.balance[account] += sharer.given[account];
        }
        book.rewarded += amount;
    }

    private void fixSet() {
        for (int node = 0; node < nodes.size; node++) {
            if (nodes.counts(node)) {
                sets.enter(now, node, Math.min(book.stakesOfNode(node), rules[BOUND]));
            }
        }
        System.arraycopy(book.stakes, 0, sets.fixedStakes, 0, NODES * ACCOUNTS);
    }

    /** Where the money is: BALANCES, STAKES, and what is DRAWN. */
    private static final class Book {
        int funded;
        int rewarded;
        final int[] balance = new int[ACCOUNTS];
        final int[] stakes = new int[NODES * ACCOUNTS];
        // Only what still waits: what has come to BALANCES is no longer DRAWN.
        final int[] due = new int[ACCOUNTS * (LAST_DUE + 1)];

        void payDue(int h) {
            for (int account = 0; account < ACCOUNTS; account++) {
                int place = duePlace(account, h);
                balance[account] += due[place];
                due[place] = 0;
            }
        }

        int stakesOfNode(int node) {
            int sum = 0;
            for (int account = 0; account < ACCOUNTS; account++) sum += stakes[stakePlace(node, account)];
            return sum;
        }

        int stakesOfAccount(int account) {
            int sum = 0;
            for (int node = 0; node < NODES; node++) sum += stakes[stakePlace(node, account)];
            return sum;
        }

        int dueOfAccount(int account) {
            int sum = 0;
            for (int h = 1; h <= LAST_DUE; h++) sum += due[duePlace(account, h)];
            return sum;
        }

        int allBalances() {
            int sum = 0;
            for (int account = 0; account < ACCOUNTS; account++) sum += balance[account];
            return sum;
        }

        int allStakes() {
            int sum = 0;
            for (int node = 0; node < NODES; node++) sum += stakesOfNode(node);
            return sum;
        }

        int allDue() {
            int sum = 0;
            for (int account = 0; account < ACCOUNTS; account++) sum += dueOfAccount(account);
            return sum;
        }
    }

    /** The NODES as they are now. */
    private static final class Nodes {
        int size;
        final int[] keeper = new int[NODES];
        final int[] cut = new int[NODES];
        final int[] state = new int[NODES];
        final int[] leavesAt = new int[NODES];
        final boolean[] frozen = new boolean[NODES];

        boolean has(int node) {
            return node >= 0 && node < size;
        }

        boolean haveAll(int bits) {
            return bits >>> size == 0;
        }

        boolean counts(int node) {
            return (state[node] == IN || state[node] == LEAVES) && !frozen[node];
        }

        /** Its caller has seen that there is room. */
        int open(int itsKeeper, int itsCut) {
            int node = size;
            keeper[node] = itsKeeper;
            cut[node] = itsCut;
            state[node] = OUT;
            leavesAt[node] = NONE;
            size++;
            return node;
        }

        void settle(int h) {
            for (int node = 0; node < size; node++) {
                if (state[node] == LEAVES && leavesAt[node] == h) {
                    state[node] = OUT;
                    leavesAt[node] = NONE;
                } else if (state[node] == JOINS) {
                    state[node] = IN;
                }
            }
        }
    }

    /** THE SETS of all HEIGHTS, and the REWARDS that came of them. */
    private static final class Sets {
        final int[] weights = new int[(TOP + 1) * NODES];
        final int[] rewards = new int[(TOP + 1) * NODES];
        final int[] all = new int[TOP + 1];
        // The NODES with a WEIGHT above 0, as bits: a WAY asks for them for every pair of HEIGHTS.
        final int[] bearers = new int[TOP + 1];
        // Only the newest SET's STAKES: older ones have had their REWARDS.
        final int[] fixedStakes = new int[NODES * ACCOUNTS];

        void enter(int h, int node, int itsWeight) {
            if (itsWeight <= 0) return;
            weights[setPlace(h, node)] = itsWeight;
            all[h] += itsWeight;
            bearers[h] |= 1 << node;
        }

        int rewardsOf(int h) {
            int sum = 0;
            for (int node = 0; node < NODES; node++) sum += rewards[setPlace(h, node)];
            return sum;
        }

        int weightOf(int h, int bits) {
            int sum = 0;
            for (int node = 0; node < NODES; node++) {
                if ((bits >>> node & 1) != 0) sum += weights[setPlace(h, node)];
            }
            return sum;
        }

        int commonWeight(int a, int b) {
            int sum = 0;
            for (int node = 0; node < NODES; node++) {
                sum += Math.min(weights[setPlace(a, node)], weights[setPlace(b, node)]);
            }
            return sum;
        }

        boolean isGood(int h, int bits) {
            return 3 * weightOf(h, bits) > 2 * all[h];
        }

        boolean allowsJump(int from, int to, int bits) {
            return isGood(to, bits) && 3 * weightOf(from, bits) > all[from];
        }
    }

    /** SHARES exactly; its rows are made once, for the largest share there is. */
    private static final class Sharer {
        final int[] given = new int[ACCOUNTS];
        final long[] rest = new long[ACCOUNTS];

        void split(int amount, int[] parts, int first, int size) {
            long all = 0;
            for (int i = 0; i < size; i++) {
                given[i] = 0;
                all += parts[first + i];
            }
            if (all <= 0) return;
            int left = amount;
            for (int i = 0; i < size; i++) {
                // The product of a POT and a STAKE can be beyond an int.
                long product = (long) amount * parts[first + i];
                given[i] = (int) (product / all);
                rest[i] = product % all;
                left -= given[i];
            }
            for (int i = 0; i < left && i < size; i++) giveOneByRest(size);
        }

        void giveOneByRest(int size) {
            int best = 0;
            for (int i = 1; i < size; i++) {
                if (rest[i] > rest[best]) best = i;
            }
            given[best]++;
            // Below every rest, so that none gets a second one.
            rest[best] = -1;
        }
    }

    /** THE BEST WAY to a HEIGHT, from each lesser one. */
    private static final class Ways {
        final int[] jumps = new int[TOP + 1];
        final int[] next = new int[TOP + 1];

        void plan(Sets sets, int from, int to) {
            jumps[to] = 0;
            next[to] = to;
            for (int h = to - 1; h >= from; h--) planFrom(sets, h, to);
        }

        void planFrom(Sets sets, int h, int to) {
            jumps[h] = NONE;
            next[h] = h;
            // Downward, and only a shorter WAY displaces another: so of like ones the greatest HEIGHT stays.
            for (int via = to; via > h && jumps[h] != 1; via--) {
                if (isShorter(h, via) && sets.allowsJump(h, via, sets.bearers[via])) {
                    jumps[h] = jumps[via] + 1;
                    next[h] = via;
                }
            }
        }

        boolean isShorter(int h, int via) {
            return jumps[via] != NONE && (jumps[h] == NONE || jumps[via] + 1 < jumps[h]);
        }

        int heightAt(int from, int to, int i) {
            int h = from;
            for (int k = 0; k < i && h < to; k++) h = next[h];
            return h;
        }
    }
}
