/** Promises 1 to 10: a new object, and what is told. */
public final class ToldTest {
    private static final int BAD = -1, NONE = -2, FULL = -3, TURN = -4;
    private static final int LEAST = Integer.MIN_VALUE, MOST = Integer.MAX_VALUE;
    private static final Check CHECK = new Check("ToldTest");

    public static void main(String[] args) {
        promise1NewObject();
        promise2Rule();
        promise2RuleIsUsed();
        promise3Fund();
        promise4Node();
        promise5Stake();
        promise6Draw();
        promise6DrawKeepsItsDue();
        promise7Join();
        promise8Leave();
        promise9Freeze();
        promise10Advance();
        promise10Rewards();
        promise10RewardsByRest();
        promise10OrderOfANewHeight();
        promise10RewardsOfOneNodeOfTwo();
        promise10PotHalvedAway();
        CHECK.end();
    }

    private static void due(String what, int got, int want) {
        CHECK.due(what, got, want);
    }

    private static void promise1NewObject() {
        NodeWeights x = new NodeWeights();
        int[] counts = {0, 0, 0, 0, 0, 0, 0, 2, 100, 10, 1_000_000};
        for (int what = 0; what < counts.length; what++) due("new: count(" + what + ")", x.count(what), counts[what]);
        for (int a = 0; a < 10; a++) {
            due("new: balance(" + a + ")", x.balance(a), 0);
            due("new: staked(" + a + ", -1)", x.staked(a, -1), 0);
            due("new: drawn(" + a + ", -1)", x.drawn(a, -1), 0);
        }
        due("new: weight(-1, 0)", x.weight(-1, 0), 0);
        due("BAD", NodeWeights.BAD, BAD);
        due("NONE", NodeWeights.NONE, NONE);
        due("FULL", NodeWeights.FULL, FULL);
        due("TURN", NodeWeights.TURN, TURN);
        NodeWeights y = new NodeWeights();
        y.fund(0, 5);
        due("objects share nothing: balance(0)", x.balance(0), 0);
    }

    private static void promise2Rule() {
        int[] atFirst = {2, 100, 10, 1_000_000};
        int[] least = {1, 0, 1, 1};
        int[] most = {9, 10_000, 50, 1_000_000};
        NodeWeights x = new NodeWeights();
        for (int what = 0; what < 4; what++) {
            due("rule below the least one", x.rule(what, least[what] - 1), BAD);
            due("rule above the greatest one", x.rule(what, most[what] + 1), BAD);
            due("rule far off", x.rule(what, LEAST), BAD);
            due("rule far off", x.rule(what, MOST), BAD);
            due("rule: what it was at first", x.rule(what, least[what]), atFirst[what]);
            due("count of the rule", x.count(7 + what), least[what]);
            due("rule: what it was", x.rule(what, most[what]), least[what]);
            due("count of the rule", x.count(7 + what), most[what]);
        }
        for (int what : new int[] {-1, 4, LEAST, MOST}) due("rule(" + what + ", 1)", x.rule(what, 1), BAD);
        x.advance(1);
        for (int what = 0; what < 4; what++) {
            due("rule at HEIGHT 1", x.rule(what, least[what]), TURN);
            due("rule at HEIGHT 1, BAD first", x.rule(what, most[what] + 1), BAD);
            due("nothing changed", x.count(7 + what), most[what]);
        }
        due("rule(4, 1) at HEIGHT 1", x.rule(4, 1), BAD);
    }

    private static void promise2RuleIsUsed() {
        NodeWeights x = new NodeWeights();
        x.rule(0, 9);
        x.rule(3, 7);
        x.node(0, 0);
        x.fund(0, 100);
        x.stake(0, 0, 50);
        x.join(0);
        x.advance(1);
        due("BOUND 7: weight", x.weight(0, 1), 7);
        due("BOUND 7: all STAKES", x.about(0, 5), 50);
        due("WAIT 9: leave", x.leave(0), 10);
        x.draw(0, 0, 1);
        due("WAIT 9: drawn(0, 10)", x.drawn(0, 10), 1);
    }

    private static void promise3Fund() {
        NodeWeights x = new NodeWeights();
        for (int account : new int[] {-1, 10, LEAST, MOST}) due("fund(" + account + ", 1)", x.fund(account, 1), BAD);
        for (int v : new int[] {0, -1, 100_001, LEAST, MOST}) due("fund(0, " + v + ")", x.fund(0, v), BAD);
        due("count(2)", x.count(2), 0);
        due("fund(3, 1)", x.fund(3, 1), 1);
        due("fund(3, 100000)", x.fund(3, 100_000), 100_001);
        due("fund(9, 5)", x.fund(9, 5), 5);
        due("count(2)", x.count(2), 100_006);
        for (int i = 0; i < 8; i++) x.fund(0, 100_000);
        due("fund(1, 99995): one too much", x.fund(1, 99_995), FULL);
        due("nothing was given", x.balance(1), 0);
        due("count(2)", x.count(2), 900_006);
        due("fund(1, 99994): all there may be", x.fund(1, 99_994), 99_994);
        due("fund(1, 1)", x.fund(1, 1), FULL);
        due("fund(1, 0): BAD first", x.fund(1, 0), BAD);
        due("fund(10, 1): BAD first", x.fund(10, 1), BAD);
        due("count(2)", x.count(2), 1_000_000);
        due("count(4)", x.count(4), 1_000_000);
    }

    private static void promise4Node() {
        NodeWeights x = new NodeWeights();
        for (int keeper : new int[] {-1, 10, LEAST, MOST}) due("node(" + keeper + ", 0)", x.node(keeper, 0), BAD);
        for (int cut : new int[] {-1, 101, LEAST, MOST}) due("node(0, " + cut + ")", x.node(0, cut), BAD);
        for (int i = 0; i < 8; i++) {
            due("node", x.node(9 - i, i == 7 ? 100 : i), i);
            due("count(1)", x.count(1), i + 1);
            due("its state", x.about(i, 0), 0);
            due("FROZEN", x.about(i, 1), 0);
            due("when it leaves", x.about(i, 2), NONE);
            due("KEEPER", x.about(i, 3), 9 - i);
            due("CUT", x.about(i, 4), i == 7 ? 100 : i);
            due("STAKES", x.about(i, 5), 0);
        }
        due("a ninth node", x.node(0, 0), FULL);
        due("a ninth node, BAD first", x.node(0, 101), BAD);
        due("count(1)", x.count(1), 8);
    }

    private static void promise5Stake() {
        NodeWeights x = new NodeWeights();
        x.node(0, 0);
        x.fund(2, 100);
        due("stake of no ACCOUNT", x.stake(10, 0, 1), BAD);
        due("stake of no ACCOUNT", x.stake(-1, 0, 1), BAD);
        for (int node : new int[] {-1, 1, 8, LEAST, MOST}) due("stake with no NODE", x.stake(2, node, 1), BAD);
        for (int v : new int[] {0, -1, 1_000_001, LEAST, MOST}) due("stake(2, 0, " + v + ")", x.stake(2, 0, v), BAD);
        due("stake(2, 0, 101)", x.stake(2, 0, 101), FULL);
        due("stake(2, 0, 1000000)", x.stake(2, 0, 1_000_000), FULL);
        due("stake(2, 0, 30)", x.stake(2, 0, 30), 30);
        due("stake(2, 0, 70)", x.stake(2, 0, 70), 100);
        due("balance(2)", x.balance(2), 0);
        due("stake(2, 0, 1)", x.stake(2, 0, 1), FULL);
        due("stake(3, 0, 1)", x.stake(3, 0, 1), FULL);
        due("count(5)", x.count(5), 100);
        x.freeze(0, true);
        x.fund(2, 1);
        due("stake with a FROZEN one", x.stake(2, 0, 1), 101);
    }

    private static void promise6Draw() {
        NodeWeights x = new NodeWeights();
        x.node(0, 0);
        x.node(0, 0);
        x.fund(2, 100);
        x.stake(2, 0, 100);
        due("draw of no ACCOUNT", x.draw(10, 0, 1), BAD);
        due("draw of no ACCOUNT", x.draw(-1, 0, 1), BAD);
        for (int node : new int[] {-1, 2, 8, LEAST, MOST}) due("draw from no NODE", x.draw(2, node, 1), BAD);
        for (int v : new int[] {0, -1, 1_000_001, LEAST, MOST}) due("draw(2, 0, " + v + ")", x.draw(2, 0, v), BAD);
        due("draw(2, 0, 101)", x.draw(2, 0, 101), FULL);
        due("draw(2, 1, 1)", x.draw(2, 1, 1), FULL);
        due("draw(1, 0, 1)", x.draw(1, 0, 1), FULL);
        due("draw(2, 0, 40)", x.draw(2, 0, 40), 60);
        due("draw(2, 0, 5)", x.draw(2, 0, 5), 55);
        due("drawn(2, 2)", x.drawn(2, 2), 45);
        due("balance(2): not yet", x.balance(2), 0);
        x.freeze(0, true);
        due("draw, FROZEN", x.draw(2, 0, 1), TURN);
        due("draw, FROZEN, too much: FULL first", x.draw(2, 0, 56), FULL);
        due("draw, FROZEN, BAD first", x.draw(2, 0, 0), BAD);
        due("nothing was drawn", x.staked(2, 0), 55);
        x.freeze(0, false);
        x.advance(1);
        due("balance(2) at 1", x.balance(2), 0);
        due("draw(2, 0, 55) at 1", x.draw(2, 0, 55), 0);
        due("drawn(2, 3)", x.drawn(2, 3), 55);
        x.advance(1);
        due("balance(2) at 2", x.balance(2), 45);
        x.advance(1);
        due("balance(2) at 3", x.balance(2), 100);
        x.advance(1);
        due("balance(2) at 4: paid once", x.balance(2), 100);
    }

    private static void promise6DrawKeepsItsDue() {
        NodeWeights x = new NodeWeights();
        x.node(0, 0);
        x.fund(0, 10);
        x.stake(0, 0, 10);
        x.draw(0, 0, 3);
        x.rule(0, 5);
        x.draw(0, 0, 4);
        due("drawn with WAIT 2", x.drawn(0, 2), 3);
        due("drawn with WAIT 5", x.drawn(0, 5), 4);
        NodeWeights last = new NodeWeights();
        last.rule(0, 9);
        last.node(0, 0);
        last.fund(0, 10);
        last.stake(0, 0, 10);
        last.advance(100);
        due("draw at HEIGHT 100", last.draw(0, 0, 10), 0);
        due("drawn(0, 109)", last.drawn(0, 109), 10);
        due("drawn(0, -1)", last.drawn(0, -1), 10);
        due("count(6)", last.count(6), 10);
    }

    private static void promise7Join() {
        NodeWeights x = new NodeWeights();
        for (int node : new int[] {-1, 0, 8, LEAST, MOST}) due("join of no NODE", x.join(node), BAD);
        x.node(0, 0);
        x.node(0, 0);
        x.freeze(1, true);
        due("join(0)", x.join(0), 1);
        due("join(1), FROZEN", x.join(1), 1);
        due("it JOINS", x.about(0, 0), 1);
        due("join(0) again", x.join(0), TURN);
        x.advance(1);
        due("it is IN", x.about(0, 0), 2);
        due("it is IN, FROZEN", x.about(1, 0), 2);
        due("join(0), IN", x.join(0), TURN);
        x.leave(0);
        due("join(0), LEAVES", x.join(0), TURN);
        x.advance(2);
        due("join(0), OUT again, at HEIGHT 3", x.join(0), 4);
        due("join(2)", x.join(2), BAD);
    }

    private static void promise8Leave() {
        NodeWeights x = new NodeWeights();
        for (int node : new int[] {-1, 0, 8, LEAST, MOST}) due("leave of no NODE", x.leave(node), BAD);
        x.node(0, 0);
        x.fund(0, 10);
        x.stake(0, 0, 10);
        due("leave(0), OUT", x.leave(0), TURN);
        x.join(0);
        due("leave(0), JOINS", x.leave(0), TURN);
        x.advance(1);
        x.freeze(0, true);
        due("leave(0), FROZEN", x.leave(0), TURN);
        x.freeze(0, false);
        due("leave(0)", x.leave(0), 3);
        due("leave(0), LEAVES", x.leave(0), TURN);
        due("its state", x.about(0, 0), 3);
        due("when it leaves", x.about(0, 2), 3);
        x.freeze(0, true);
        x.advance(1);
        due("FROZEN while it LEAVES: weight", x.weight(0, 2), 0);
        due("still LEAVES", x.about(0, 0), 3);
        x.advance(1);
        due("OUT, though FROZEN", x.about(0, 0), 0);
        due("no more due", x.about(0, 2), NONE);
        due("still FROZEN", x.about(0, 1), 1);
        due("its STAKES stay", x.about(0, 5), 10);
    }

    private static void promise9Freeze() {
        NodeWeights x = new NodeWeights();
        for (int node : new int[] {-1, 0, 8, LEAST, MOST}) due("freeze of no NODE", x.freeze(node, true), BAD);
        x.node(0, 0);
        x.node(0, 0);
        due("freeze(0, false)", x.freeze(0, false), 0);
        due("freeze(0, true)", x.freeze(0, true), 0);
        due("freeze(0, true) again", x.freeze(0, true), 1);
        due("about(0, 1)", x.about(0, 1), 1);
        due("about(1, 1)", x.about(1, 1), 0);
        due("freeze(0, false)", x.freeze(0, false), 1);
        due("about(0, 1)", x.about(0, 1), 0);
    }

    private static void promise10Advance() {
        NodeWeights x = new NodeWeights();
        for (int n : new int[] {0, -1, 101, LEAST, MOST}) due("advance(" + n + ")", x.advance(n), BAD);
        due("advance(1)", x.advance(1), 1);
        due("advance(100)", x.advance(100), FULL);
        due("none is done", x.count(0), 1);
        due("advance(99)", x.advance(99), 100);
        due("advance(1)", x.advance(1), FULL);
        due("advance(101), BAD first", x.advance(101), BAD);
        due("HEIGHT", x.count(0), 100);
        due("advance(100) of a new object", new NodeWeights().advance(100), 100);
    }

    private static void promise10Rewards() {
        NodeWeights x = new NodeWeights();
        x.rule(1, 101);
        x.rule(2, 2);
        x.node(7, 33);
        x.fund(0, 30);
        x.fund(1, 20);
        x.stake(0, 0, 30);
        x.stake(1, 0, 20);
        x.join(0);
        x.advance(1);
        due("SET 0 has no weights, so no REWARDS", x.reward(-1, 0), 0);
        // STAKES that change now do not count for SET 1.
        x.fund(2, 50);
        x.stake(2, 0, 50);
        x.draw(0, 0, 30);
        x.advance(1);
        due("POT at 1 is not halved", x.reward(0, 1), 101);
        due("KEEPER has 33 of 101", x.balance(7), 33);
        due("3 / 5 of 68", x.balance(0), 41);
        due("2 / 5 of 68", x.balance(1), 27);
        due("no STAKE when SET 1 was fixed", x.balance(2), 0);
        x.advance(1);
        due("POT at 2 is halved", x.reward(0, 2), 50);
        due("KEEPER has 16 of 50 more", x.balance(7), 49);
        due("draw came back", x.balance(0), 71);
        due("2 / 7 of 34 more, the greater rest", x.balance(1), 37);
        due("5 / 7 of 34", x.balance(2), 24);
        x.advance(1);
        due("POT at 3", x.reward(0, 3), 50);
        x.advance(1);
        due("POT at 4 is halved twice", x.reward(0, 4), 25);
        due("reward(-1, 3) is that HEIGHT's alone", x.reward(-1, 3), 50);
        due("count(3)", x.count(3), 101 + 50 + 50 + 25);
    }

    private static void promise10RewardsByRest() {
        NodeWeights x = new NodeWeights();
        x.rule(1, 5);
        for (int node = 0; node < 4; node++) x.node(9, 0);
        // Parts of 5 by 1, 1, 1, 4 of 7: rests 5, 5, 5, 6.
        int[] stakes = {1, 1, 1, 4};
        for (int node = 0; node < 4; node++) {
            x.fund(node, stakes[node]);
            x.stake(node, node, stakes[node]);
            x.join(node);
        }
        x.advance(2);
        int[] rewards = {1, 1, 0, 3};
        for (int node = 0; node < 4; node++) {
            due("greatest rest first, then the least number", x.reward(node, 1), rewards[node]);
            due("it comes to the one who has the STAKE", x.balance(node), rewards[node]);
        }
        NodeWeights big = new NodeWeights();
        big.rule(1, 10_000);
        big.rule(3, 1_000_000);
        big.node(0, 0);
        for (int i = 0; i < 7; i++) big.fund(1, 100_000);
        for (int i = 0; i < 3; i++) big.fund(2, 100_000);
        big.stake(1, 0, 700_000);
        big.stake(2, 0, 300_000);
        big.join(0);
        big.advance(2);
        due("products beyond an int", big.balance(1), 7_000);
        due("products beyond an int", big.balance(2), 3_000);
    }

    private static void promise10OrderOfANewHeight() {
        NodeWeights x = new NodeWeights();
        x.rule(0, 1);
        x.node(0, 0);
        x.node(1, 0);
        x.fund(0, 10);
        x.fund(1, 10);
        x.stake(0, 0, 10);
        x.stake(1, 1, 10);
        x.join(0);
        x.join(1);
        x.advance(1);
        x.leave(0);
        x.advance(1);
        due("REWARDS of 1 go to the one that left at 2", x.reward(0, 1), 50);
        due("it is OUT before THE SET of 2 is fixed", x.weight(0, 2), 0);
        due("ALL of 2", x.weight(-1, 2), 10);
        x.advance(1);
        due("no REWARDS of 2 for it", x.reward(0, 2), 0);
        due("all of 2 to the other", x.reward(1, 2), 100);
    }

    private static void promise10RewardsOfOneNodeOfTwo() {
        NodeWeights x = new NodeWeights();
        for (int node = 0; node < 3; node++) {
            x.node(9, 0);
            x.join(node);
        }
        x.fund(0, 1);
        x.stake(0, 1, 1);
        x.advance(2);
        due("ALL of 1 is enough", x.weight(-1, 1), 1);
        due("all to the one with a WEIGHT", x.reward(1, 1), 100);
        due("nothing to one without STAKES", x.reward(2, 1), 0);
        due("balance(0)", x.balance(0), 100);
        due("count(4)", x.count(4), 100);
        x.draw(0, 1, 1);
        x.advance(2);
        due("no WEIGHTS, no REWARDS", x.reward(-1, 3), 0);
        due("balance(0): REWARDS of 2, and what was DRAWN", x.balance(0), 201);
    }

    private static void promise10PotHalvedAway() {
        NodeWeights x = new NodeWeights();
        x.rule(1, 10_000);
        x.rule(2, 1);
        x.node(0, 50);
        x.fund(0, 1);
        x.stake(0, 0, 1);
        x.join(0);
        x.advance(100);
        for (int height = 1; height < 100; height++) {
            due("POT of " + height, x.reward(0, height), height > 13 ? 0 : 10_000 / (1 << height));
        }
        due("weight at HEIGHT 100", x.weight(0, 100), 1);
        due("CERTIFICATE of HEIGHT 100", x.judge(100, 1), 1);
        due("count(3) is what came to BALANCES", x.balance(0), x.count(3));
    }
}
