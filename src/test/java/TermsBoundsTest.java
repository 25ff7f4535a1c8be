/** The boundary cases of the document's "Terms", one method for each sentence. */
public final class TermsBoundsTest {
    private static final int BAD = -1, NONE = -2, FULL = -3, TURN = -4;
    private static final int LEAST = Integer.MIN_VALUE, MOST = Integer.MAX_VALUE;
    private static final Check CHECK = new Check("TermsBoundsTest");

    public static void main(String[] args) {
        accounts();
        nodes();
        nodesAreOutAtFirst();
        height();
        waitOfOne();
        waitOfNine();
        rewardOfNothing();
        rewardOfTenThousand();
        boundOfOne();
        boundOfAMillion();
        setOfZero();
        weightAtMostBound();
        weightOnlyInOrLeaves();
        weightOnlyNotFrozen();
        allOfNothing();
        allOfOne();
        potIsWhole();
        potOfHalvingOne();
        potOfHalvingFifty();
        cutIsWhole();
        cutOfNothingAndOfAll();
        sharedByWeightsNotByStakes();
        sharedByStakesWhenFixed();
        sharedWithoutStakes();
        nothingIsLeft();
        leftToGreatestRest();
        leftToLeastNumberOfNodes();
        leftToLeastNumberOfAccounts();
        sharedBeyondAnInt();
        rewardsOfTheSetBefore();
        dueAtH();
        leavesAtH();
        joinsAtH();
        leavesAndJoinsAtOneHeight();
        callsOfOneObject();
        CHECK.end();
    }

    private static Run run(String sentence) {
        CHECK.sentence(sentence);
        return more();
    }

    private static Run more() {
        return new Run(CHECK);
    }

    /** ACCOUNT 0 has 10 with NODE 0, which ACCOUNT 5 keeps, and which is IN from HEIGHT 1 on. */
    private static Run oneNode(int cut) {
        return more().tell("node(5, " + cut + "); fund(0, 10); stake(0, 0, 10); join(0)");
    }

    /** NODES with these STAKES of ACCOUNT 0, all JOIN; HALVING 50. */
    private static Run nodesOf(int... stakes) {
        Run run = more().tell("rule(2, 50)");
        for (int node = 0; node < stakes.length; node++) {
            run.tell("node(9, 0); fund(0, " + stakes[node] + "); stake(0, " + node + ", " + stakes[node] + "); join(" + node + ")");
        }
        return run;
    }

    /** One NODE with these STAKES of ACCOUNTS 0, 1 ..; it JOINS; HALVING 50. */
    private static Run accountsOf(int... stakes) {
        Run run = more().tell("rule(2, 50); node(9, 0); join(0)");
        for (int a = 0; a < stakes.length; a++) run.tell("fund(" + a + ", " + stakes[a] + "); stake(" + a + ", 0, " + stakes[a] + ")");
        return run;
    }

    private static void rewardsAre(Run run, int pot, int... wants) {
        run.tell("rule(1, " + pot + "); advance(2)");
        for (int node = 0; node < wants.length; node++) run.is("reward(" + node + ", 1)", wants[node]);
        run.is("reward(-1, 1)", pot).is("balance(0)", pot).is("count(3)", pot);
    }

    private static void balancesAre(Run run, int pot, int... wants) {
        run.tell("rule(1, " + pot + "); advance(2)");
        for (int account = 0; account < wants.length; account++) run.is("balance(" + account + ")", wants[account]);
        run.is("reward(0, 1)", pot).is("count(4)", pot);
    }

    private static void accounts() {
        Run run = run("ACCOUNTS 0 .. 9").tell("node(0, 0); node(9, 0)");
        run.tell("fund(0, 7); fund(9, 8); stake(0, 0, 2); stake(9, 0, 3); draw(0, 0, 1); draw(9, 0, 1)");
        run.is("balance(0)", 5).is("balance(9)", 5).is("staked(0, 0)", 1).is("staked(9, 0)", 2);
        run.is("drawn(0, 2)", 1).is("drawn(9, 2)", 1);
        int[] none = {-1, 10, LEAST, MOST};
        run.refusesEach("fund(#, 1)", BAD, none).refusesEach("node(#, 0)", BAD, none);
        run.refusesEach("stake(#, 0, 1)", BAD, none).refusesEach("draw(#, 0, 1)", BAD, none);
        run.refusesEach("balance(#)", BAD, none).refusesEach("staked(#, 0)", BAD, none);
        run.refusesEach("drawn(#, 2)", BAD, none);
    }

    private static void nodes() {
        Run run = run("NODES 0 .. 7 at most").tell("fund(0, 100)");
        for (int node = 0; node < 8; node++) run.is("node(" + node + ", " + node + ")", node);
        run.refuses("node(0, 0)", FULL);
        run.is("stake(0, 7, 20)", 20).is("draw(0, 7, 1)", 19).is("freeze(7, true)", 0).is("freeze(7, false)", 1);
        run.is("join(7)", 1).tell("advance(1)").is("about(7, 0)", 2).is("about(7, 3)", 7).is("about(7, 4)", 7);
        run.is("weight(7, 1)", 19).is("reward(7, 0)", 0).is("staked(0, 7)", 19).is("judge(1, 128)", 1);
        run.is("leave(7)", 3).tell("advance(1)").is("reward(7, 1)", 100).is("jump(1, 2, 128)", 1);
        int[] none = {8, 9, LEAST, MOST};
        run.refusesEach("stake(0, #, 1)", BAD, none).refusesEach("draw(0, #, 1)", BAD, none);
        run.refusesEach("join(#)", BAD, none).refusesEach("leave(#)", BAD, none).refusesEach("freeze(#, true)", BAD, none);
        run.refusesEach("staked(0, #)", BAD, none).refusesEach("about(#, 0)", BAD, none);
        run.refusesEach("weight(#, 1)", BAD, none).refusesEach("reward(#, 1)", BAD, none);
    }

    private static void nodesAreOutAtFirst() {
        Run run = run("a NODE is OUT (at first)").tell("fund(0, 10); node(0, 0)").is("about(0, 0)", 0).is("about(0, 1)", 0);
        run.tell("stake(0, 0, 10); advance(1)").is("about(0, 0)", 0).is("weight(0, 1)", 0);
        run.tell("node(1, 0)").is("about(1, 0)", 0).tell("advance(99); node(2, 0)").is("about(2, 0)", 0);
    }

    private static void height() {
        run("HEIGHT is 0 at first, 100 at most").is("count(0)", 0).is("advance(99)", 99).is("advance(1)", 100)
            .refusesEach("advance(#)", FULL, 1, 2, 100).is("count(0)", 100);
    }

    private static void waitOfOne() {
        Run run = run("WAIT 1: due at the very next HEIGHT");
        run.tell("rule(0, 1); node(0, 0); fund(1, 10); stake(1, 0, 10); join(0); advance(1); draw(1, 0, 4)");
        run.is("leave(0)", 2).is("drawn(1, 2)", 4).is("drawn(1, -1)", 4).is("balance(1)", 0);
        run.tell("advance(1)");
        run.is("about(0, 0)", 0).is("about(0, 2)", NONE).is("drawn(1, -1)", 0).is("balance(1)", 4 + 100);
    }

    private static void waitOfNine() {
        Run run = run("WAIT 9: due nine HEIGHTS on");
        run.tell("rule(0, 9); rule(1, 0); node(0, 0); fund(1, 10); stake(1, 0, 10); join(0); advance(1); draw(1, 0, 4)");
        run.is("leave(0)", 10).is("drawn(1, 10)", 4).tell("advance(8)").is("about(0, 0)", 3).is("balance(1)", 0);
        run.is("weight(0, 9)", 6).tell("advance(1)").is("about(0, 0)", 0).is("balance(1)", 4).is("weight(0, 10)", 0);
    }

    private static void rewardOfNothing() {
        run("REWARD 0: nothing is given");
        oneNode(50).tell("rule(1, 0); advance(3)").is("weight(0, 2)", 10).is("reward(0, 1)", 0).is("reward(-1, 2)", 0)
            .is("count(3)", 0).is("balance(0)", 0).is("balance(5)", 0);
    }

    private static void rewardOfTenThousand() {
        run("REWARD 10,000, HALVING 50: as much as there can be");
        oneNode(0).tell("rule(1, 10000); rule(2, 50); advance(100)").is("count(3)", 49 * 10_000 + 50 * 5_000)
            .is("balance(0)", 740_000).is("count(4)", 740_000);
    }

    private static void boundOfOne() {
        run("BOUND 1: every WEIGHT is 1 or 0");
        Run run = nodesOf(1, 2, 90_000).tell("rule(3, 1); node(9, 0); join(3); advance(1)");
        run.is("weight(0, 1)", 1).is("weight(1, 1)", 1).is("weight(2, 1)", 1).is("weight(3, 1)", 0).is("weight(-1, 1)", 3);
    }

    private static void boundOfAMillion() {
        Run run = run("BOUND 1,000,000: with STAKES below it, like it, and above it");
        run.tell(Stories.rich(0, 10)).tell("node(1, 0); stake(0, 0, 1); join(0); advance(3)").is("balance(0)", 1_000_199);
        run.is("stake(0, 0, 999998)", 999_999).tell("advance(1)").is("weight(0, 4)", 999_999);
        run.is("stake(0, 0, 1)", 1_000_000).tell("advance(1)").is("weight(0, 5)", 1_000_000);
        run.is("stake(0, 0, 1)", 1_000_001).tell("advance(1)").is("weight(0, 6)", 1_000_000);
        run.is("weight(-1, 6)", 1_000_000).is("about(0, 5)", 1_000_001).is("judge(6, 1)", 1);
    }

    private static void setOfZero() {
        Run run = run("THE SET of 0 is without weights");
        run.tell("node(0, 0); fund(0, 10); stake(0, 0, 10); join(0)").is("weight(0, 0)", 0).is("weight(-1, 0)", 0);
        run.is("judge(0, 1)", 0).is("overlap(0, 0)", 0).tell("advance(1)").is("count(3)", 0).is("balance(0)", 0);
        run.is("reward(0, 0)", 0).is("reward(-1, 0)", 0).is("weight(0, 0)", 0).is("weight(-1, 0)", 0);
        run.is("weight(0, 1)", 10).is("overlap(0, 1)", 0).is("overlap(1, 0)", 0).is("jump(0, 1, 1)", 0);
        run.is("way(0, 1, -1)", NONE).is("judge(0, 1)", 0).is("judge(1, 1)", 1);
    }

    private static void weightAtMostBound() {
        run("the WEIGHT is all its STAKES together, at most BOUND");
        Run run = nodesOf(49, 50, 51).tell("rule(3, 50); advance(1)");
        run.is("weight(0, 1)", 49).is("weight(1, 1)", 50).is("weight(2, 1)", 50).is("weight(-1, 1)", 149);
        run.tell("fund(1, 1); stake(1, 0, 1); draw(0, 2, 2); advance(1)");
        run.is("weight(0, 2)", 50).is("weight(2, 2)", 49).is("weight(0, 1)", 49).is("weight(2, 1)", 50);
        accountsOf(20, 20, 9).tell("rule(3, 50); advance(1)").is("weight(0, 1)", 49);
        accountsOf(20, 20, 11).tell("rule(3, 50); advance(1)").is("weight(0, 1)", 50);
    }

    private static void weightOnlyInOrLeaves() {
        Run run = run("the WEIGHT of a NODE that is IN or LEAVES; else 0");
        run.tell("node(0, 0); fund(0, 10); stake(0, 0, 10); advance(1)").is("weight(0, 1)", 0);
        run.tell("join(0)").is("weight(0, 1)", 0).tell("advance(1)").is("weight(0, 2)", 10);
        run.tell("leave(0)").is("weight(0, 2)", 10).tell("advance(1)").is("weight(0, 3)", 10);
        run.tell("advance(1)").is("weight(0, 4)", 0).is("weight(-1, 4)", 0).is("weight(0, 3)", 10);
    }

    private static void weightOnlyNotFrozen() {
        run("and is not FROZEN");
        Run run = oneNode(0).tell("advance(1); freeze(0, true)").is("weight(0, 1)", 10).is("judge(1, 1)", 1);
        run.tell("advance(1)").is("weight(0, 2)", 0).is("weight(-1, 2)", 0).tell("freeze(0, false)").is("weight(0, 2)", 0);
        run.tell("advance(1)").is("weight(0, 3)", 10).tell("leave(0); freeze(0, true); advance(1)").is("about(0, 0)", 3);
        run.is("weight(0, 4)", 0).is("weight(0, 3)", 10);
    }

    private static void allOfNothing() {
        Run run = run("If ALL of SET h - 1 is above 0: it is 0, nothing is given");
        run.tell("node(5, 10); join(0); node(5, 0); fund(0, 10); stake(0, 1, 10); advance(3)");
        run.is("weight(-1, 2)", 0).is("reward(0, 2)", 0).is("reward(1, 2)", 0).is("reward(-1, 2)", 0).is("count(3)", 0);
        run.tell("fund(0, 1); stake(0, 0, 1); advance(2)").is("reward(0, 4)", 100).is("count(3)", 100);
    }

    private static void allOfOne() {
        run("If ALL of SET h - 1 is above 0: it is 1");
        nodesOf(1).tell("advance(2)").is("weight(-1, 1)", 1).is("reward(0, 1)", 100).is("balance(0)", 100);
    }

    private static void potIsWhole() {
        run("POT is REWARD / 2 ^ ((h - 1) / HALVING), both whole");
        Run run = oneNode(0).tell("rule(1, 101); rule(2, 3); advance(10)");
        int[] pots = {0, 101, 101, 50, 50, 50, 25, 25, 25, 12};
        for (int h = 0; h < 10; h++) run.is("reward(0, " + h + ")", pots[h]);
        run.is("count(3)", 101 * 2 + 50 * 3 + 25 * 3 + 12);
        oneNode(0).tell("rule(1, 1); rule(2, 2); advance(3)").is("reward(0, 1)", 1).is("reward(0, 2)", 0);
    }

    private static void potOfHalvingOne() {
        run("HALVING 1: beyond 31 halvings nothing wraps around");
        Run run = oneNode(0).tell("rule(1, 10000); rule(2, 1); advance(100)");
        for (int h = 1; h <= 13; h++) run.is("reward(0, " + h + ")", 10_000 >> h);
        run.each("reward(0, #)", 0, 14, 15, 29, 30, 31, 32, 33, 45, 46, 62, 63, 64, 65, 77, 95, 96, 97, 98, 99);
    }

    private static void potOfHalvingFifty() {
        run("HALVING 50: halved from HEIGHT 50 on");
        oneNode(0).tell("rule(2, 50); advance(100)").each("reward(0, #)", 100, 1, 48, 49)
            .each("reward(0, #)", 50, 50, 51, 98, 99);
    }

    private static void cutIsWhole() {
        run("CUT hundredths (whole) come to its KEEPER, what is left to ACCOUNTS");
        int[][] potCutKept = {{99, 1, 0}, {100, 1, 1}, {199, 1, 1}, {200, 1, 2}, {1, 99, 0}, {3, 50, 1}, {101, 99, 99}, {10_000, 33, 3_300}};
        for (int[] c : potCutKept) {
            oneNode(c[1]).tell("rule(1, " + c[0] + "); advance(2)").is("reward(0, 1)", c[0])
                .is("balance(5)", c[2]).is("balance(0)", c[0] - c[2]);
        }
    }

    private static void cutOfNothingAndOfAll() {
        run("CUT 0 and CUT 100");
        oneNode(0).tell("advance(2)").is("balance(5)", 0).is("balance(0)", 100);
        oneNode(100).tell("advance(2)").is("balance(5)", 100).is("balance(0)", 0).is("reward(0, 1)", 100);
        oneNode(100).tell("rule(1, 1); advance(2)").is("balance(5)", 1).is("balance(0)", 0);
        // A KEEPER with a STAKE has its CUT and its share.
        oneNode(10).tell("fund(5, 30); stake(5, 0, 30); advance(2)").is("balance(5)", 10 + 67).is("balance(0)", 23);
    }

    private static void sharedByWeightsNotByStakes() {
        Run run = run("POT is SHARED by WEIGHTS, what a NODE has by STAKES");
        run.tell("rule(3, 10); node(9, 0); node(9, 0); fund(0, 10); stake(0, 0, 10); join(0); join(1)");
        run.tell("fund(1, 750); fund(2, 250); stake(1, 1, 750); stake(2, 1, 250); advance(2)");
        run.is("reward(0, 1)", 50).is("reward(1, 1)", 50).is("balance(1)", 38).is("balance(2)", 12).is("balance(0)", 50);
    }

    private static void sharedByStakesWhenFixed() {
        run("by their STAKES with this NODE when SET h - 1 was fixed");
        Run run = oneNode(0).tell("advance(1); fund(1, 90); stake(1, 0, 90); draw(0, 0, 10); advance(1)");
        run.is("balance(0)", 100).is("balance(1)", 0).is("reward(0, 1)", 100).tell("advance(1)");
        run.is("balance(1)", 100).is("balance(0)", 100 + 10).is("reward(0, 2)", 100);
        // STAKES with another NODE do not count.
        Run two = oneNode(0).tell("node(9, 0); fund(3, 500); stake(3, 1, 500); advance(2)");
        two.is("balance(0)", 100).is("balance(3)", 0);
    }

    private static void sharedWithoutStakes() {
        run("a NODE without STAKES has nothing and gives nothing, whatever others have");
        for (int empty : new int[] {0, 1}) {
            int other = 1 - empty;
            Run run = more().tell("node(7, 40); node(8, 40); join(0); join(1); fund(3, 10); fund(4, 30)");
            run.tell("stake(3, " + other + ", 10); stake(4, " + other + ", 30); advance(1); node(6, 0); advance(1)");
            run.is("reward(" + empty + ", 1)", 0).is("reward(" + other + ", 1)", 100).is("reward(2, 1)", 0);
            run.is("balance(3)", 15).is("balance(4)", 45).is("balance(" + (7 + other) + ")", 40)
                .is("balance(" + (7 + empty) + ")", 0);
            run.each("balance(#)", 0, 0, 1, 2, 5, 6, 9).is("count(4)", 100).is("count(3)", 100);
        }
    }

    private static void nothingIsLeft() {
        run("each has as much as its part of all (whole), and nothing is left");
        rewardsAre(nodesOf(1, 1, 1, 1, 1, 1, 1, 1), 8, 1, 1, 1, 1, 1, 1, 1, 1);
        rewardsAre(nodesOf(1, 2, 4), 7, 1, 2, 4);
        balancesAre(accountsOf(1, 1, 1, 1, 1, 1, 1, 1, 1, 1), 10, 1, 1, 1, 1, 1, 1, 1, 1, 1, 1);
        balancesAre(accountsOf(3, 1), 4, 3, 1);
    }

    private static void leftToGreatestRest() {
        run("what is left then goes one each to those whose part has the greatest rest");
        rewardsAre(nodesOf(1, 2, 4), 10, 1, 3, 6);
        rewardsAre(nodesOf(1, 2, 4), 1, 0, 0, 1);
        rewardsAre(nodesOf(1, 2, 4), 2, 0, 1, 1);
        rewardsAre(nodesOf(1, 2, 4), 3, 0, 1, 2);
        balancesAre(accountsOf(1, 2, 4), 10, 1, 3, 6);
        balancesAre(accountsOf(1, 2, 4), 1, 0, 0, 1);
        balancesAre(accountsOf(5, 1, 1), 4, 3, 1, 0);
    }

    private static void leftToLeastNumberOfNodes() {
        run("of like ones to the least number (NODES)");
        rewardsAre(nodesOf(1, 1, 1, 1, 1, 1, 1, 1), 1, 1, 0, 0, 0, 0, 0, 0, 0);
        rewardsAre(nodesOf(1, 1, 1, 1, 1, 1, 1, 1), 7, 1, 1, 1, 1, 1, 1, 1, 0);
        rewardsAre(nodesOf(1, 1, 1, 1, 1, 1, 1, 1), 9, 2, 1, 1, 1, 1, 1, 1, 1);
        rewardsAre(nodesOf(1, 1, 1, 1, 1, 1, 1, 1), 15, 2, 2, 2, 2, 2, 2, 2, 1);
        rewardsAre(nodesOf(1, 3, 1, 3), 1, 0, 1, 0, 0);
        rewardsAre(nodesOf(1, 3, 1, 3), 2, 0, 1, 0, 1);
        rewardsAre(nodesOf(1, 3, 1, 3), 3, 1, 1, 0, 1);
    }

    private static void leftToLeastNumberOfAccounts() {
        run("of like ones to the least number (ACCOUNTS)");
        balancesAre(accountsOf(1, 1, 1, 1, 1, 1, 1, 1, 1, 1), 1, 1, 0, 0, 0, 0, 0, 0, 0, 0, 0);
        balancesAre(accountsOf(1, 1, 1, 1, 1, 1, 1, 1, 1, 1), 9, 1, 1, 1, 1, 1, 1, 1, 1, 1, 0);
        balancesAre(accountsOf(1, 1, 1, 1, 1, 1, 1, 1, 1, 1), 11, 2, 1, 1, 1, 1, 1, 1, 1, 1, 1);
        balancesAre(accountsOf(1, 1, 1, 1, 1, 1, 1, 1, 1, 1), 19, 2, 2, 2, 2, 2, 2, 2, 2, 2, 1);
        balancesAre(accountsOf(1, 3, 1, 3), 1, 0, 1, 0, 0);
        balancesAre(accountsOf(1, 3, 1, 3), 3, 1, 1, 0, 1);
    }

    private static void sharedBeyondAnInt() {
        run("a POT of 10,000 by WEIGHTS of a million: no product wraps around");
        Run run = more().tell(Stories.rich(0, 10))
            .tell("rule(1, 10000); node(9, 0); node(9, 0); node(9, 0); join(0); join(1); join(2)");
        run.tell("stake(0, 0, 333333); stake(0, 1, 333333); stake(0, 2, 333334); advance(2)");
        run.is("reward(0, 1)", 3333).is("reward(1, 1)", 3333).is("reward(2, 1)", 3334).is("balance(0)", 10_000);
        Run one = more().tell(Stories.rich(0, 6) + Stories.rich(1, 4)).tell("rule(1, 10000); node(9, 0); join(0)");
        one.tell("stake(0, 0, 599999); stake(1, 0, 400000); advance(2)");
        one.is("reward(0, 1)", 10_000).is("balance(0)", 1 + 6000).is("balance(1)", 4000);
    }

    private static void rewardsOfTheSetBefore() {
        run("REWARDS of h - 1 come first: what was told since does not change them");
        oneNode(0).tell("advance(1); freeze(0, true); advance(1)").is("reward(0, 1)", 100).is("weight(0, 2)", 0)
            .tell("advance(1)").is("reward(0, 2)", 0).is("reward(-1, 2)", 0);
        oneNode(30).tell("advance(1); freeze(0, true); advance(1)").is("balance(5)", 30).is("balance(0)", 70);
        // What comes with the REWARDS is in BALANCES, not in STAKES.
        oneNode(0).tell("advance(3)").is("weight(0, 3)", 10).is("staked(0, 0)", 10).is("balance(0)", 200);
    }

    private static void dueAtH() {
        Run run = run("what was DRAWN and is due at h comes to BALANCES");
        run.tell("rule(0, 3); node(5, 0); fund(0, 10); stake(0, 0, 10); draw(0, 0, 4); advance(2)");
        run.is("balance(0)", 0).is("drawn(0, 3)", 4).is("count(6)", 4).tell("advance(1)").is("balance(0)", 4);
        run.is("drawn(0, 3)", 0).is("count(6)", 0).tell("advance(1)").is("balance(0)", 4).is("staked(0, 0)", 6);
    }

    private static void leavesAtH() {
        run("NODES that LEAVE and are due at h are OUT");
        Run run = oneNode(0).tell("rule(0, 2); advance(1); leave(0); advance(1)").is("about(0, 0)", 3).is("weight(0, 2)", 10);
        run.tell("advance(1)").is("about(0, 0)", 0).is("weight(0, 3)", 0).is("reward(0, 2)", 100).is("about(0, 2)", NONE);
        run.is("join(0)", 4).tell("advance(1)").is("weight(0, 4)", 10).is("reward(0, 3)", 0);
    }

    private static void joinsAtH() {
        run("those that JOIN are IN; THE SET of h is fixed");
        Run run = oneNode(0).is("about(0, 0)", 1).is("weight(-1, 0)", 0).tell("advance(1)").is("about(0, 0)", 2);
        run.is("weight(0, 1)", 10).refuses("join(0)", TURN);
    }

    private static void leavesAndJoinsAtOneHeight() {
        run("one goes OUT and one is IN at the same HEIGHT");
        Run run = oneNode(0).tell("node(6, 0); fund(1, 7); stake(1, 1, 7); advance(1); leave(0); advance(1); join(1); advance(1)");
        run.is("weight(0, 3)", 0).is("weight(1, 3)", 7).is("about(0, 0)", 0).is("about(1, 0)", 2).is("weight(-1, 3)", 7);
    }

    private static void callsOfOneObject() {
        Run run = run("An object is used for at most 512 calls: the last of them counts too");
        run.tell("node(0, 0); fund(0, 1000)");
        for (int i = 1; i <= 254; i++) run.is("stake(0, 0, 2)", 2 * i).is("balance(0)", 1000 - 2 * i);
        run.tell("join(0)").is("advance(100)", 100);
    }
}
