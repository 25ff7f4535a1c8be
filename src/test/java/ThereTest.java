/** Promises 11 to 16, and 21: what is there. */
public final class ThereTest {
    private static final int BAD = -1, NONE = -2;
    private static final int LEAST = Integer.MIN_VALUE, MOST = Integer.MAX_VALUE;
    private static final Check CHECK = new Check("ThereTest");

    public static void main(String[] args) {
        promise11Balance();
        promise12Staked();
        promise13Drawn();
        promise13DrawnAtTheEnds();
        promise14About();
        promise15Weight();
        promise16Reward();
        promise21Count();
        CHECK.end();
    }

    private static void due(String what, int got, int want) {
        CHECK.due(what, got, want);
    }

    /** NODE 0 (KEEPER 3, CUT 10) and 1 (KEEPER 4, CUT 0) JOIN; 5 has 60 and 20 with them, 6 has 40 with 1. */
    private static NodeWeights twoNodes() {
        NodeWeights x = new NodeWeights();
        x.node(3, 10);
        x.node(4, 0);
        x.fund(5, 100);
        x.fund(6, 50);
        x.stake(5, 0, 60);
        x.stake(5, 1, 20);
        x.stake(6, 1, 40);
        x.join(0);
        x.join(1);
        return x;
    }

    private static void promise11Balance() {
        NodeWeights x = twoNodes();
        for (int account : new int[] {-1, 10, LEAST, MOST}) due("balance(" + account + ")", x.balance(account), BAD);
        due("balance(5)", x.balance(5), 20);
        due("balance(6)", x.balance(6), 10);
        due("balance(9)", x.balance(9), 0);
        x.advance(2);
        due("balance(3) has the CUT", x.balance(3), 5);
        due("balance(4) has a CUT of 0", x.balance(4), 0);
        due("balance(5)", x.balance(5), 20 + 45 + 17);
        due("balance(6)", x.balance(6), 10 + 33);
    }

    private static void promise12Staked() {
        NodeWeights x = twoNodes();
        due("staked(5, 0)", x.staked(5, 0), 60);
        due("staked(5, 1)", x.staked(5, 1), 20);
        due("staked(6, 0)", x.staked(6, 0), 0);
        due("staked(5, -1)", x.staked(5, -1), 80);
        due("staked(6, -1)", x.staked(6, -1), 40);
        due("staked(0, -1)", x.staked(0, -1), 0);
        for (int account : new int[] {-1, 10, LEAST, MOST}) {
            due("staked(" + account + ", 0)", x.staked(account, 0), BAD);
            due("staked(" + account + ", -1)", x.staked(account, -1), BAD);
        }
        for (int node : new int[] {-2, 2, 8, LEAST, MOST}) due("staked(5, " + node + ")", x.staked(5, node), BAD);
    }

    private static void promise13Drawn() {
        NodeWeights x = twoNodes();
        x.draw(5, 0, 7);
        x.draw(6, 1, 2);
        x.advance(1);
        x.draw(5, 1, 9);
        due("drawn(5, 1)", x.drawn(5, 1), 0);
        due("drawn(5, 2)", x.drawn(5, 2), 7);
        due("drawn(5, 3)", x.drawn(5, 3), 9);
        due("drawn(6, 2)", x.drawn(6, 2), 2);
        due("drawn(5, 109)", x.drawn(5, 109), 0);
        due("drawn(5, -1)", x.drawn(5, -1), 16);
        due("drawn(6, -1)", x.drawn(6, -1), 2);
        x.advance(1);
        due("drawn(5, -1): what is not due yet", x.drawn(5, -1), 9);
        due("drawn(5, 2): it has come to BALANCES", x.drawn(5, 2), 0);
        due("drawn(5, 3): still waits", x.drawn(5, 3), 9);
        due("drawn(6, 2): it has come to BALANCES", x.drawn(6, 2), 0);
        due("drawn(6, -1)", x.drawn(6, -1), 0);
        x.advance(5);
        for (int height = 1; height <= 109; height++) due("nothing waits at " + height, x.drawn(5, height), 0);
        for (int account : new int[] {-1, 10, LEAST, MOST}) {
            due("drawn(" + account + ", 1)", x.drawn(account, 1), BAD);
            due("drawn(" + account + ", -1)", x.drawn(account, -1), BAD);
        }
        for (int height : new int[] {0, -2, 110, LEAST, MOST}) due("drawn(5, " + height + ")", x.drawn(5, height), BAD);
    }

    private static void promise13DrawnAtTheEnds() {
        NodeWeights x = new NodeWeights();
        x.rule(0, 1);
        x.node(3, 0);
        x.fund(5, 10);
        x.stake(5, 0, 10);
        x.draw(5, 0, 4);
        due("drawn(5, 1): WAIT 1", x.drawn(5, 1), 4);
        x.advance(1);
        due("drawn(5, 1): it has come to BALANCES", x.drawn(5, 1), 0);
        due("balance(5)", x.balance(5), 4);

        NodeWeights y = new NodeWeights();
        y.rule(0, 9);
        y.node(3, 0);
        y.fund(5, 10);
        y.stake(5, 0, 10);
        y.advance(91);
        y.draw(5, 0, 1);
        y.advance(8);
        y.draw(5, 0, 2);
        due("drawn(5, 100) at 99", y.drawn(5, 100), 1);
        y.advance(1);
        y.draw(5, 0, 3);
        due("drawn(5, 100) at 100", y.drawn(5, 100), 0);
        due("drawn(5, 108) never comes", y.drawn(5, 108), 2);
        due("drawn(5, 109) never comes", y.drawn(5, 109), 3);
        due("drawn(5, -1)", y.drawn(5, -1), 5);
        due("count(6)", y.count(6), 5);
    }

    private static void promise14About() {
        NodeWeights x = twoNodes();
        due("state", x.about(0, 0), 1);
        x.advance(1);
        x.freeze(1, true);
        x.leave(0);
        int[] first = {3, 0, 3, 3, 10, 60};
        int[] second = {2, 1, NONE, 4, 0, 60};
        for (int what = 0; what < 6; what++) {
            due("about(0, " + what + ")", x.about(0, what), first[what]);
            due("about(1, " + what + ")", x.about(1, what), second[what]);
            for (int node : new int[] {-1, 2, 8, LEAST, MOST}) due("about(" + node + ", .)", x.about(node, what), BAD);
        }
        for (int what : new int[] {-1, 6, LEAST, MOST}) due("about(0, " + what + ")", x.about(0, what), BAD);
        x.advance(2);
        due("OUT", x.about(0, 0), 0);
        due("not due any more", x.about(0, 2), NONE);
    }

    private static void promise15Weight() {
        NodeWeights x = new NodeWeights();
        x.rule(3, 50);
        x.node(0, 0);
        x.node(1, 0);
        x.node(2, 0);
        x.fund(0, 200);
        x.stake(0, 0, 30);
        x.stake(0, 1, 49);
        x.stake(0, 2, 60);
        x.join(0);
        x.join(1);
        due("weight(0, 0)", x.weight(0, 0), 0);
        due("weight(0, 1), no such HEIGHT", x.weight(0, 1), BAD);
        x.advance(1);
        due("weight(0, 1)", x.weight(0, 1), 30);
        due("weight(1, 1)", x.weight(1, 1), 49);
        due("weight(2, 1), OUT", x.weight(2, 1), 0);
        due("ALL of 1", x.weight(-1, 1), 79);
        x.stake(0, 1, 1);
        x.stake(0, 0, 21);
        x.freeze(0, true);
        x.join(2);
        due("SET 1 stays as it was fixed", x.weight(0, 1), 30);
        x.advance(1);
        due("weight(0, 2), FROZEN", x.weight(0, 2), 0);
        due("weight(1, 2), just the BOUND", x.weight(1, 2), 50);
        due("weight(2, 2), above the BOUND", x.weight(2, 2), 50);
        due("ALL of 2", x.weight(-1, 2), 100);
        due("ALL of 0", x.weight(-1, 0), 0);
        x.node(5, 0);
        due("weight of a NODE that was not there yet", x.weight(3, 1), 0);
        for (int node : new int[] {-2, 4, 8, LEAST, MOST}) due("weight(" + node + ", 1)", x.weight(node, 1), BAD);
        for (int height : new int[] {-1, 3, 101, LEAST, MOST}) {
            due("weight(0, " + height + ")", x.weight(0, height), BAD);
            due("weight(-1, " + height + ")", x.weight(-1, height), BAD);
        }
    }

    private static void promise16Reward() {
        NodeWeights x = twoNodes();
        due("reward(-1, 0) at HEIGHT 0", x.reward(-1, 0), BAD);
        x.advance(1);
        due("reward(0, 0)", x.reward(0, 0), 0);
        due("reward(-1, 1) at HEIGHT 1", x.reward(-1, 1), BAD);
        x.freeze(0, true);
        x.advance(2);
        due("reward(0, 1), its CUT too", x.reward(0, 1), 50);
        due("reward(1, 1)", x.reward(1, 1), 50);
        due("reward(-1, 1)", x.reward(-1, 1), 100);
        due("reward(0, 2)", x.reward(0, 2), 0);
        due("reward(1, 2)", x.reward(1, 2), 100);
        due("reward(-1, 2)", x.reward(-1, 2), 100);
        x.node(0, 0);
        due("reward of a NODE that was not there yet", x.reward(2, 1), 0);
        for (int node : new int[] {-2, 3, 8, LEAST, MOST}) due("reward(" + node + ", 1)", x.reward(node, 1), BAD);
        for (int height : new int[] {-1, 3, 101, LEAST, MOST}) {
            due("reward(0, " + height + ")", x.reward(0, height), BAD);
            due("reward(-1, " + height + ")", x.reward(-1, height), BAD);
        }
    }

    private static void promise21Count() {
        NodeWeights x = twoNodes();
        x.rule(0, 3);
        x.rule(1, 77);
        x.rule(2, 4);
        x.rule(3, 90);
        x.draw(5, 1, 8);
        x.advance(2);
        int[] counts = {2, 2, 150, 77, 30 + 77, 112, 8, 3, 77, 4, 90};
        for (int what = 0; what < counts.length; what++) due("count(" + what + ")", x.count(what), counts[what]);
        x.advance(1);
        due("count(6): it has come back", x.count(6), 0);
        due("count(4)", x.count(4), 30 + 77 + 77 + 8);
        for (int what : new int[] {-1, 11, LEAST, MOST}) due("count(" + what + ")", x.count(what), BAD);
    }
}
