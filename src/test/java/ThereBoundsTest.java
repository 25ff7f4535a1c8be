/** The boundary cases of promises 11 to 16 and 21, one method for each sentence; a question changes nothing. */
public final class ThereBoundsTest {
    private static final int BAD = -1, NONE = -2;
    private static final int LEAST = Integer.MIN_VALUE, MOST = Integer.MAX_VALUE;
    private static final int[] NO_ACCOUNT = {-1, 10, -2, LEAST, MOST};
    /** For five NODES, where - 1 has a meaning of its own. */
    private static final int[] NO_NODE = {-2, 5, 7, 8, LEAST, MOST};
    private static final Check CHECK = new Check("ThereBoundsTest");

    public static void main(String[] args) {
        balanceAccount();
        stakedAccount();
        stakedNode();
        stakedInAll();
        drawnAccount();
        drawnHeight();
        drawnLaterIsNeverThere();
        drawnOfEachAccount();
        drawnInAllNotDueYet();
        aboutNode();
        aboutWhat();
        aboutState();
        aboutFrozen();
        aboutDueToLeave();
        aboutStakes();
        weightHeight();
        weightHeightAtTheEnds();
        weightNode();
        weightInAll();
        rewardHeight();
        rewardHeightAtTheEnds();
        rewardNode();
        rewardInAll();
        rewardInAllAgain();
        countWhat();
        countsAtTheEnds();
        countsKeepAllThatWasGiven();
        askingChangesNothing();
        CHECK.end();
    }

    private static Run run(String sentence) {
        CHECK.sentence(sentence);
        return new Run(CHECK);
    }

    private static Run busy(String sentence) {
        return run(sentence).tell(Stories.BUSY);
    }

    private static void balanceAccount() {
        run("11: BALANCE of an ACCOUNT (0 .. 9)").tell("fund(0, 1); fund(9, 2)").is("balance(0)", 1).is("balance(9)", 2)
            .is("balance(8)", 0)
            .refusesEach("balance(#)", BAD, NO_ACCOUNT);
        busy("11: BAD, in the midst").refusesEach("balance(#)", BAD, NO_ACCOUNT).is("balance(8)", 0);
        run("11: BALANCE of 1,000,000").tell(Stories.rich(9, 10)).is("balance(9)", 1_000_000);
    }

    private static void stakedAccount() {
        busy("12: BAD: no ACCOUNT").is("staked(0, 0)", 370).is("staked(9, 2)", 100).is("staked(8, 0)", 0)
            .refusesEach("staked(#, 0)", BAD, NO_ACCOUNT).refusesEach("staked(#, -1)", BAD, NO_ACCOUNT);
    }

    private static void stakedNode() {
        busy("12: BAD: no NODE").is("staked(0, 0)", 370).is("staked(0, 4)", 5).refusesEach("staked(0, #)", BAD, NO_NODE);
        run("12: the last of eight").tell(Stories.FULL).is("staked(7, 7)", 100_000).is("staked(7, 0)", 0)
            .refusesEach("staked(7, #)", BAD, 8, -2);
    }

    private static void stakedInAll() {
        busy("12: node = - 1: all its STAKES together").is("staked(0, -1)", 370 + 7 + 5).is("staked(1, -1)", 45 + 200)
            .is("staked(9, -1)", 160).is("staked(2, -1)", 0);
        run("12: node = - 1, no NODES").is("staked(0, -1)", 0).is("staked(9, -1)", 0);
        Run all = run("12: node = - 1, eight NODES").tell("fund(3, 36)");
        for (int node = 0; node < 8; node++) all.tell("node(0, 0); stake(3, " + node + ", " + (node + 1) + ")");
        all.is("staked(3, -1)", 36).is("staked(3, 7)", 8).is("staked(3, 0)", 1);
    }

    private static void drawnAccount() {
        busy("13: BAD: no ACCOUNT").is("drawn(0, 5)", 30).is("drawn(1, 6)", 5).is("drawn(9, 5)", 0)
            .refusesEach("drawn(#, 5)", BAD, NO_ACCOUNT).refusesEach("drawn(#, -1)", BAD, NO_ACCOUNT);
    }

    private static void drawnHeight() {
        Run run = run("13: due at a HEIGHT (1 .. 109)").tell("rule(0, 1); node(0, 0); fund(9, 5); stake(9, 0, 5); draw(9, 0, 2)");
        run.is("drawn(9, 1)", 2).is("drawn(9, 109)", 0).is("drawn(8, 1)", 0).is("drawn(9, 2)", 0).is("drawn(9, -1)", 2)
            .is("count(6)", 2);
        run.refusesEach("drawn(9, #)", BAD, 0, 110, -2, LEAST, MOST);
        run.tell("advance(100)").is("drawn(9, 1)", 0).is("drawn(9, 109)", 0).is("drawn(9, 101)", 0);
        run.refusesEach("drawn(9, #)", BAD, 0, 110, -2, LEAST, MOST);
    }

    private static void drawnLaterIsNeverThere() {
        Run run = run("13: what is due later is never there")
            .tell("rule(0, 9); node(0, 0); fund(9, 50); stake(9, 0, 50); advance(90)");
        run.tell("draw(9, 0, 1); advance(1); draw(9, 0, 2); advance(1); draw(9, 0, 4); advance(7)");
        run.is("drawn(9, 100)", 2).is("drawn(9, 99)", 0).is("drawn(9, 101)", 4).tell("draw(9, 0, 8); advance(1); draw(9, 0, 16)");
        run.is("drawn(9, 100)", 0).is("drawn(9, 101)", 4).is("drawn(9, 108)", 8).is("drawn(9, 109)", 16).is("drawn(9, 110)", BAD);
        run.is("drawn(9, -1)", 28).is("count(6)", 28).is("balance(9)", 3).refuses("advance(1)", -3);
    }

    private static void drawnOfEachAccount() {
        Run run = run("13: what an ACCOUNT has DRAWN, and no other one").tell("rule(0, 9); node(0, 0); advance(100)");
        for (int account : new int[] {0, 4, 8}) {
            run.tell("fund(" + account + ", 9); stake(" + account + ", 0, 9); draw(" + account + ", 0, 3)");
        }
        run.each("drawn(#, 109)", 3, 0, 4, 8).each("drawn(#, -1)", 3, 0, 4, 8).is("count(6)", 9);
        run.each("drawn(#, 109)", 0, 1, 3, 5, 7, 9).each("drawn(#, 1)", 0, 1, 5, 9).each("drawn(#, -1)", 0, 1, 3, 5, 7, 9);
    }

    private static void drawnInAllNotDueYet() {
        Run run = busy("13: height = - 1: in all that is not due yet").is("drawn(0, -1)", 30).is("drawn(1, -1)", 5)
            .is("drawn(2, -1)", 0);
        run.tell("draw(0, 4, 2)").is("drawn(0, -1)", 32).is("drawn(0, 5)", 30).is("drawn(0, 6)", 2).tell("advance(1)")
            .is("drawn(0, -1)", 32);
        run.tell("advance(1)").is("drawn(0, -1)", 2).is("drawn(0, 5)", 0).is("drawn(1, -1)", 5).tell("advance(1)");
        run.is("drawn(0, -1)", 0).is("drawn(1, -1)", 0).is("drawn(0, 6)", 0).is("count(6)", 0);
    }

    private static void aboutNode() {
        Run run = busy("14: BAD: no NODE").is("about(0, 3)", 2).is("about(4, 3)", 6);
        for (int what = 0; what <= 5; what++) run.refusesEach("about(#, " + what + ")", BAD, -1, 5, 7, 8, LEAST, MOST);
    }

    private static void aboutWhat() {
        busy("14: BAD: what (0 .. 5)").is("about(0, 0)", 2).is("about(0, 5)", 415)
            .refusesEach("about(0, #)", BAD, -1, 6, -2, LEAST, MOST)
            .refuses("about(-1, 6)", BAD).refuses("about(5, -1)", BAD);
    }

    private static void aboutState() {
        Run run = busy("14: 0 its state (0 OUT, 1 JOINS, 2 IN, 3 LEAVES)");
        run.is("about(4, 0)", 0).is("about(3, 0)", 1).is("about(0, 0)", 2).is("about(1, 0)", 2).is("about(2, 0)", 3);
        run.tell("advance(1)").is("about(3, 0)", 2).is("about(2, 0)", 3).tell("advance(1)").is("about(2, 0)", 0)
            .is("about(4, 0)", 0);
    }

    private static void aboutFrozen() {
        busy("14: 1 FROZEN (1, 0)").is("about(0, 1)", 0).is("about(1, 1)", 1).tell("freeze(1, false); freeze(4, true)")
            .is("about(1, 1)", 0).is("about(4, 1)", 1).tell("advance(9)").is("about(4, 1)", 1);
    }

    private static void aboutDueToLeave() {
        Run run = busy("14: 2 when it is due to leave (NONE)").each("about(#, 2)", NONE, 0, 1, 3, 4).is("about(2, 2)", 5);
        run.tell("advance(1)").is("about(2, 2)", 5).tell("advance(1)").is("about(2, 2)", NONE).tell("join(2)")
            .is("about(2, 2)", NONE);
        run.tell("advance(1)").is("about(2, 2)", NONE).is("leave(2)", 9).is("about(2, 2)", 9);
        run("14: 2 at HEIGHT 100").tell(Stories.TALL).is("leave(0)", 103).is("about(0, 2)", 103).is("about(0, 0)", 3);
    }

    private static void aboutStakes() {
        busy("14: 5 all its STAKES (no BOUND)").is("about(0, 5)", 415).is("about(1, 5)", 200).is("about(2, 5)", 107)
            .is("about(4, 5)", 5)
            .is("stake(0, 0, 200)", 570).is("about(0, 5)", 615).tell("advance(1)").is("weight(0, 4)", 500).is("about(0, 5)", 615);
        Run ten = run("14: 5 of ten ACCOUNTS").tell("node(0, 0)").is("about(0, 5)", 0);
        for (int account = 0; account < 10; account++) ten.tell("fund(" + account + ", 9); stake(" + account + ", 0, " + (account == 9 ? 9 : 1) + ")");
        ten.is("about(0, 5)", 18);
    }

    private static void weightHeight() {
        busy("15: the SET of a HEIGHT (0 .. HEIGHT)").is("weight(0, 0)", 0).is("weight(0, 1)", 450).is("weight(0, 3)", 420)
            .refusesEach("weight(0, #)", BAD, -1, 4, 5, 100, 101, LEAST, MOST)
            .refusesEach("weight(-1, #)", BAD, -1, 4, 101, LEAST, MOST);
    }

    private static void weightHeightAtTheEnds() {
        run("15: HEIGHT 0").tell("node(0, 0)").is("weight(0, 0)", 0).refusesEach("weight(0, #)", BAD, -1, 1);
        run("15: HEIGHT 100").tell(Stories.TALL).is("weight(0, 100)", 415).is("weight(-1, 100)", 475).is("weight(0, 99)", 415)
            .refusesEach("weight(0, #)", BAD, -1, 101, 102).refusesEach("weight(-1, #)", BAD, -1, 101);
    }

    private static void weightNode() {
        busy("15: BAD: no NODE").is("weight(0, 3)", 420).is("weight(4, 3)", 0).refusesEach("weight(#, 3)", BAD, NO_NODE)
            .refusesEach("weight(#, 0)", BAD, NO_NODE).tell("node(0, 0)").is("weight(5, 1)", 0).is("weight(5, 3)", 0)
            .refuses("weight(6, 1)", BAD);
    }

    private static void weightInAll() {
        busy("15: node = - 1: ALL").is("weight(-1, 0)", 0).is("weight(-1, 1)", 757).is("weight(-1, 2)", 757)
            .is("weight(-1, 3)", 420 + 107);
        run("15: node = - 1, the last of eight").tell(Stories.FULL).is("weight(-1, 2)", 28_000).tell("join(7); advance(1)")
            .is("weight(-1, 3)", 128_000);
    }

    private static void rewardHeight() {
        busy("16: at the end of a HEIGHT (0 .. HEIGHT - 1)").is("reward(0, 0)", 0).is("reward(0, 1)", 595).is("reward(0, 2)", 297)
            .refusesEach("reward(0, #)", BAD, -1, 3, 4, 100, LEAST, MOST)
            .refusesEach("reward(-1, #)", BAD, -1, 3, 100, LEAST, MOST);
    }

    private static void rewardHeightAtTheEnds() {
        run("16: HEIGHT 0 has none").tell("node(0, 0)").refusesEach("reward(0, #)", BAD, -1, 0, 1)
            .refusesEach("reward(-1, #)", BAD, -1, 0, 1);
        run("16: HEIGHT 1 has one").tell("node(0, 0); advance(1)").is("reward(0, 0)", 0).is("reward(-1, 0)", 0)
            .refusesEach("reward(0, #)", BAD, -1, 1, 2).refusesEach("reward(-1, #)", BAD, -1, 1);
        run("16: HEIGHT 100").tell("rule(1, 10000); rule(2, 50); node(0, 0); fund(0, 1); stake(0, 0, 1); join(0); advance(100)")
            .is("reward(0, 99)", 5000).is("reward(-1, 99)", 5000).refusesEach("reward(0, #)", BAD, 100, 101, -1)
            .refusesEach("reward(-1, #)", BAD, 100, 101);
    }

    private static void rewardNode() {
        busy("16: BAD: no NODE").is("reward(0, 1)", 595).is("reward(4, 1)", 0).refusesEach("reward(#, 1)", BAD, NO_NODE)
            .refusesEach("reward(#, 0)", BAD, NO_NODE).tell("node(0, 0)").is("reward(5, 1)", 0).refuses("reward(6, 1)", BAD);
        busy("16: to a NODE (its CUT, too)").is("reward(2, 1)", 141).is("reward(2, 2)", 71).is("balance(4)", 28 + 14);
    }

    private static void rewardInAll() {
        busy("16: node = - 1: in all").is("reward(-1, 0)", 0).is("reward(-1, 1)", 1000).is("reward(-1, 2)", 500)
            .is("count(3)", 1500);
        run("16: node = - 1, the last of eight").tell(Stories.FULL).tell("join(7); advance(2)").is("reward(-1, 3)", 100)
            .is("reward(7, 3)", 78);
    }

    private static void rewardInAllAgain() {
        Run run = run("16: in all, HEIGHT behind HEIGHT, with more ACCOUNTS than NODES").tell("rule(1, 30); node(0, 0); join(0)");
        for (int account = 0; account < 10; account++) run.tell("fund(" + account + ", 1); stake(" + account + ", 0, 1)");
        run.tell("advance(4)").each("reward(-1, #)", 30, 1, 2, 3).each("reward(0, #)", 30, 1, 2, 3);
        run.tell("node(0, 0); node(0, 0)").each("reward(1, #)", 0, 0, 1, 2, 3).each("reward(2, #)", 0, 0, 1, 2, 3).is("count(3)", 90);
    }

    private static void countWhat() {
        Run run = busy("21: BAD: what (0 .. 10)").refusesEach("count(#)", BAD, -1, 11, -2, LEAST, MOST);
        run.is("count(0)", 3).is("count(1)", 5).is("count(2)", 2000).is("count(3)", 1500)
            .is("count(5)", 370 + 45 + 200 + 107 + 60 + 5);
        run.is("count(6)", 35).is("count(4)", 2000 + 1500 - 787 - 35);
        run.is("count(7)", 3).is("count(8)", 1000).is("count(9)", 2).is("count(10)", 500);
    }

    private static void countsAtTheEnds() {
        Run none = run("21: a new object").refusesEach("count(#)", BAD, -1, 11);
        for (int what = 0; what <= 6; what++) none.is("count(" + what + ")", 0);
        none.is("count(7)", 2).is("count(8)", 100).is("count(9)", 10).is("count(10)", 1_000_000);
        run("21: as much as there can be").tell(Stories.FULL).is("count(1)", 8).is("count(2)", 1_000_000).is("count(3)", 100)
            .is("count(5)", 128_000).is("count(4)", 872_100).is("count(6)", 0).tell("advance(98)").is("count(0)", 100);
    }

    private static void countsKeepAllThatWasGiven() {
        Run run = run("21: BALANCES, STAKES and what is DRAWN are all that was given").tell(Stories.TALL);
        int[] stakesAndDrawn = {415 + 200 + 96 + 60 + 5, 11};
        // POTS of 1,000 halved every second HEIGHT: at 1, and twice each of 500, 250 ..
        int rewards = 1000 + 2 * (500 + 250 + 125 + 62 + 31 + 15 + 7 + 3 + 1);
        run.is("count(3)", rewards).is("count(5)", stakesAndDrawn[0]).is("count(6)", stakesAndDrawn[1]);
        run.is("count(4)", 2000 + rewards - stakesAndDrawn[0] - stakesAndDrawn[1]);
    }

    private static void askingChangesNothing() {
        busy("11 to 16, 21: what is there is only asked for").asks("balance(0)").asks("staked(0, 0)").asks("staked(0, -1)")
            .asks("drawn(0, 5)").asks("drawn(0, -1)").asks("about(2, 2)").asks("weight(0, 3)").asks("weight(-1, 3)")
            .asks("reward(0, 2)").asks("reward(-1, 2)").asks("count(4)").asks("count(6)");
    }
}
