/** The boundary cases of promises 1 to 10, one method for each sentence; a refused call changes nothing. */
public final class ToldBoundsTest {
    private static final int BAD = -1, NONE = -2, FULL = -3, TURN = -4;
    private static final int LEAST = Integer.MIN_VALUE, MOST = Integer.MAX_VALUE;
    private static final int[] NO_ACCOUNT = {-1, 10, -2, LEAST, MOST};
    /** For five NODES. */
    private static final int[] NO_NODE = {-1, 5, 7, 8, -2, LEAST, MOST};
    private static final Check CHECK = new Check("ToldBoundsTest");

    public static void main(String[] args) {
        newObject();
        newObjectWithoutNodes();
        ruleWhat();
        ruleWait();
        ruleReward();
        ruleHalving();
        ruleBound();
        ruleTurn();
        fundAccount();
        fundV();
        fundFull();
        fundFullIsOfFundAlone();
        nodeKeeper();
        nodeCut();
        nodeFull();
        nodeAtAnyHeight();
        stakeAccount();
        stakeNode();
        stakeV();
        stakeVOfMore();
        stakeFull();
        stakeInAnyState();
        drawAccount();
        drawNode();
        drawV();
        drawVOfMore();
        drawFull();
        drawTurn();
        drawDue();
        joinNode();
        joinTurn();
        joinNextHeight();
        leaveNode();
        leaveTurn();
        leaveDue();
        freezeNode();
        freezeWas();
        advanceN();
        advanceFull();
        advanceNoneIsDone();
        CHECK.end();
    }

    private static Run run(String sentence) {
        CHECK.sentence(sentence);
        return more();
    }

    private static Run more() {
        return new Run(CHECK);
    }

    private static Run busy(String sentence) {
        return run(sentence).tell(Stories.BUSY);
    }

    private static void newObject() {
        Run run = run("1: HEIGHT 0, BALANCES 0");
        for (int what = 0; what <= 6; what++) run.is("count(" + what + ")", 0);
        for (int account = 0; account <= 9; account++) run.is("balance(" + account + ")", 0).is("drawn(" + account + ", -1)", 0);
        run.is("weight(-1, 0)", 0).is("overlap(0, 0)", 0).is("judge(0, 0)", 0);
        run.refuses("weight(-1, 1)", BAD).refuses("reward(-1, 0)", BAD).refuses("judge(1, 0)", BAD).refuses("overlap(0, 1)", BAD);
        run.refuses("jump(0, 1, 0)", BAD).refuses("way(0, 1, -1)", BAD).refuses("way(0, 0, -1)", BAD);
    }

    private static void newObjectWithoutNodes() {
        Run run = run("1: no NODES").tell("fund(0, 10)");
        run.refusesEach("stake(0, #, 1)", BAD, -1, 0, 1, 7).refusesEach("draw(0, #, 1)", BAD, -1, 0, 1, 7);
        run.refusesEach("join(#)", BAD, -1, 0, 1, 7).refusesEach("leave(#)", BAD, -1, 0, 1, 7);
        run.refusesEach("freeze(#, true)", BAD, -1, 0, 1, 7).refusesEach("about(#, 0)", BAD, -1, 0, 1, 7);
        run.refusesEach("weight(#, 0)", BAD, -2, 0, 1, 7).refusesEach("staked(0, #)", BAD, -2, 0, 1, 7);
        run.refusesEach("judge(0, #)", BAD, 1, 2, 128, -1, LEAST, MOST).is("judge(0, 0)", 0).is("staked(0, -1)", 0);
        run.tell("advance(2)").refusesEach("reward(#, 0)", BAD, -2, 0, 1, 7).is("reward(-1, 1)", 0).is("jump(1, 2, 0)", 0);
        run.refusesEach("jump(1, 2, #)", BAD, 1, 128, -1).is("way(1, 2, -1)", NONE).is("overlap(1, 2)", 0);
    }

    private static void ruleWhat() {
        Run run = run("2: RULE 0 .. 3").refusesEach("rule(#, 1)", BAD, -1, 4, 5, -2, LEAST, MOST);
        run.is("rule(0, 1)", 2).is("rule(1, 1)", 100).is("rule(2, 1)", 10).is("rule(3, 1)", 1_000_000);
        run.is("count(7)", 1).is("count(8)", 1).is("count(9)", 1).is("count(10)", 1);
    }

    private static void ruleWait() {
        run("2: WAIT (1 .. 9; 2 at first)").is("count(7)", 2).refusesEach("rule(0, #)", BAD, 0, 10, -1, LEAST, MOST)
            .is("rule(0, 9)", 2).is("count(7)", 9).is("rule(0, 1)", 9).is("count(7)", 1)
            .refusesEach("rule(0, #)", BAD, 0, 10).is("rule(0, 1)", 1).is("count(7)", 1);
    }

    private static void ruleReward() {
        run("2: REWARD (0 .. 10,000; 100 at first)").is("count(8)", 100).refusesEach("rule(1, #)", BAD, -1, 10_001, LEAST, MOST)
            .is("rule(1, 10000)", 100).is("count(8)", 10_000).is("rule(1, 0)", 10_000).is("count(8)", 0)
            .refusesEach("rule(1, #)", BAD, -1, 10_001).is("rule(1, 5)", 0);
    }

    private static void ruleHalving() {
        run("2: HALVING (1 .. 50; 10 at first)").is("count(9)", 10).refusesEach("rule(2, #)", BAD, 0, 51, -1, LEAST, MOST)
            .is("rule(2, 50)", 10).is("count(9)", 50).is("rule(2, 1)", 50).is("count(9)", 1)
            .refusesEach("rule(2, #)", BAD, 0, 51).is("rule(2, 5)", 1);
    }

    private static void ruleBound() {
        run("2: BOUND (1 .. 1,000,000; this at first)").is("count(10)", 1_000_000)
            .refusesEach("rule(3, #)", BAD, 0, 1_000_001, -1, LEAST, MOST)
            .is("rule(3, 1)", 1_000_000).is("count(10)", 1).is("rule(3, 1000000)", 1).is("count(10)", 1_000_000)
            .refusesEach("rule(3, #)", BAD, 0, 1_000_001).is("rule(3, 5)", 1_000_000);
    }

    private static void ruleTurn() {
        Run run = run("2: TURN: HEIGHT is above 0 (BAD is ahead of it)").tell("node(0, 0); join(0); rule(0, 3); rule(0, 4)");
        run.tell("advance(1)");
        run.refusesEach("rule(0, #)", TURN, 1, 4, 9).refusesEach("rule(1, #)", TURN, 0, 10_000);
        run.refusesEach("rule(2, #)", TURN, 1, 50).refusesEach("rule(3, #)", TURN, 1, 1_000_000);
        run.refusesEach("rule(0, #)", BAD, 0, 10).refusesEach("rule(1, #)", BAD, -1, 10_001);
        run.refusesEach("rule(2, #)", BAD, 0, 51).refusesEach("rule(3, #)", BAD, 0, 1_000_001)
            .refusesEach("rule(#, 1)", BAD, -1, 4);
        run.is("count(7)", 4).tell("advance(99)").refuses("rule(0, 1)", TURN).refuses("rule(0, 0)", BAD);
    }

    private static void fundAccount() {
        run("3: an ACCOUNT (0 .. 9)").is("fund(0, 3)", 3).is("fund(9, 4)", 4).refusesEach("fund(#, 1)", BAD, NO_ACCOUNT)
            .is("balance(0)", 3).is("balance(9)", 4).is("count(2)", 7);
    }

    private static void fundV() {
        run("3: gets v (1 .. 100,000): its BALANCE").is("fund(4, 1)", 1).is("fund(4, 100000)", 100_001)
            .refusesEach("fund(4, #)", BAD, 0, 100_001, -1, 1_000_000, LEAST, MOST).is("balance(4)", 100_001);
        busy("3: its BALANCE, with REWARDS").is("balance(2)", 0).is("fund(2, 7)", 7).is("balance(4)", 28 + 14)
            .is("fund(4, 1)", 43);
    }

    private static void fundFull() {
        Run run = run("3: FULL: more than 1,000,000 would have been given in all (BAD is ahead of it)");
        run.tell(Stories.rich(0, 5) + Stories.rich(9, 4)).refuses("fund(3, 100001)", BAD);
        run.is("fund(1, 99999)", 99_999).refusesEach("fund(3, #)", FULL, 2, 3, 100_000).is("fund(2, 1)", 1)
            .is("count(2)", 1_000_000);
        run.refusesEach("fund(#, 1)", FULL, 0, 2, 9).refuses("fund(0, 100000)", FULL);
        run.refusesEach("fund(0, #)", BAD, 0, 100_001, LEAST, MOST).refusesEach("fund(#, 1)", BAD, -1, 10);
        more().tell(Stories.rich(0, 9)).is("fund(0, 100000)", 1_000_000).refuses("fund(1, 1)", FULL);
    }

    private static void fundFullIsOfFundAlone() {
        Run run = run("3: given in all: REWARDS do not count, STAKES and what is DRAWN do not make room").tell(Stories.FULL);
        run.refuses("fund(0, 1)", FULL).tell("draw(7, 7, 50000)").refuses("fund(7, 1)", FULL);
        Run other = more().tell(Stories.rich(0, 9)).tell("node(0, 0); stake(0, 0, 900000); join(0); advance(10)");
        other.is("balance(0)", 900).is("count(2)", 900_000).is("fund(0, 100000)", 100_900).refuses("fund(0, 1)", FULL);
    }

    private static void nodeKeeper() {
        run("4: BAD: no ACCOUNT").is("node(0, 0)", 0).is("node(9, 0)", 1).is("node(9, 0)", 2)
            .refusesEach("node(#, 0)", BAD, NO_ACCOUNT).is("about(0, 3)", 0).is("about(1, 3)", 9).is("about(2, 3)", 9)
            .is("count(1)", 3);
    }

    private static void nodeCut() {
        run("4: BAD: CUT not 0 .. 100").is("node(1, 0)", 0).is("node(1, 100)", 1)
            .refusesEach("node(1, #)", BAD, -1, 101, LEAST, MOST)
            .is("about(0, 4)", 0).is("about(1, 4)", 100).is("count(1)", 2).is("node(1, 50)", 2);
    }

    private static void nodeFull() {
        Run run = run("4: FULL: 8 (BAD is ahead of it)");
        for (int node = 0; node < 7; node++) run.is("node(" + node + ", 0)", node);
        run.is("count(1)", 7).is("node(7, 1)", 7).is("count(1)", 8);
        run.refusesEach("node(#, 0)", FULL, 0, 7, 9).refuses("node(0, 100)", FULL);
        run.refusesEach("node(#, 0)", BAD, -1, 10).refusesEach("node(0, #)", BAD, -1, 101);
        run.is("about(7, 3)", 7).is("about(7, 4)", 1);
    }

    private static void nodeAtAnyHeight() {
        Run run = run("4: a NODE more, OUT").tell("advance(100)").is("node(3, 4)", 0).is("about(0, 0)", 0).is("about(0, 5)", 0);
        run.is("weight(0, 100)", 0).is("reward(0, 99)", 0).refuses("about(1, 0)", BAD);
    }

    private static void stakeAccount() {
        busy("5: BAD: no ACCOUNT").is("stake(0, 1, 1)", 1).is("stake(9, 1, 1)", 1).refusesEach("stake(#, 0, 1)", BAD, NO_ACCOUNT);
    }

    private static void stakeNode() {
        busy("5: BAD: no NODE").is("stake(0, 0, 1)", 371).is("stake(0, 4, 1)", 6).refusesEach("stake(0, #, 1)", BAD, NO_NODE);
    }

    private static void stakeV() {
        Run run = run("5: v (1 .. 1,000,000)").tell("node(0, 0)").tell(Stories.rich(3, 10));
        run.refusesEach("stake(3, 0, #)", BAD, 0, 1_000_001, -1, LEAST, MOST).is("balance(3)", 1_000_000);
        run.is("stake(3, 0, 1000000)", 1_000_000).is("balance(3)", 0);
        more().tell("node(0, 0); fund(3, 2)").is("stake(3, 0, 1)", 1).is("balance(3)", 1);
    }

    private static void stakeVOfMore() {
        Run run = run("5: v above 1,000,000 is BAD, though the ACCOUNT has so much").tell("node(1, 0)").tell(Stories.rich(0, 10));
        run.tell("stake(0, 0, 1); join(0); advance(3)").is("balance(0)", 1_000_199).refuses("stake(0, 0, 1000001)", BAD);
        run.is("stake(0, 0, 1000000)", 1_000_001).is("balance(0)", 199);
    }

    private static void stakeFull() {
        Run run = run("5: FULL: it has not so much (BAD is ahead of it)").tell("node(0, 0); fund(2, 100); fund(3, 500)");
        run.refusesEach("stake(2, 0, #)", FULL, 101, 102, 600, 1_000_000).is("stake(2, 0, 99)", 99)
            .refuses("stake(2, 0, 2)", FULL);
        run.is("stake(2, 0, 1)", 100).is("balance(2)", 0).refuses("stake(2, 0, 1)", FULL).refuses("stake(4, 0, 1)", FULL);
        run.refuses("stake(2, 0, 0)", BAD).refuses("stake(2, 0, 1000001)", BAD).refuses("stake(2, 1, 1)", BAD)
            .refuses("stake(10, 0, 1)", BAD);
        run.tell("draw(2, 0, 40)").refuses("stake(2, 0, 1)", FULL);
    }

    private static void stakeInAnyState() {
        Run run = busy("5: with a NODE in any state, FROZEN or not");
        run.is("stake(1, 0, 2)", 47).is("stake(1, 1, 2)", 202).is("stake(1, 2, 2)", 2).is("stake(1, 3, 2)", 2)
            .is("stake(1, 4, 2)", 2);
    }

    private static void drawAccount() {
        busy("6: BAD: no ACCOUNT").is("draw(0, 0, 1)", 369).is("draw(9, 2, 1)", 99).refusesEach("draw(#, 0, 1)", BAD, NO_ACCOUNT);
    }

    private static void drawNode() {
        busy("6: BAD: no NODE").is("draw(0, 0, 1)", 369).is("draw(0, 4, 1)", 4).refusesEach("draw(0, #, 1)", BAD, NO_NODE);
    }

    private static void drawV() {
        Run run = run("6: v (1 .. 1,000,000)").tell("node(0, 0)").tell(Stories.rich(3, 10)).tell("stake(3, 0, 1000000)");
        run.refusesEach("draw(3, 0, #)", BAD, 0, 1_000_001, -1, LEAST, MOST);
        run.is("draw(3, 0, 1000000)", 0).is("drawn(3, 2)", 1_000_000).is("count(6)", 1_000_000).is("balance(3)", 0);
        more().tell("node(0, 0); fund(3, 2); stake(3, 0, 2)").is("draw(3, 0, 1)", 1).is("drawn(3, -1)", 1);
    }

    private static void drawVOfMore() {
        Run run = run("6: v above 1,000,000 is BAD, though the STAKE is so much").tell("node(1, 0)").tell(Stories.rich(0, 10));
        run.tell("stake(0, 0, 1); join(0); advance(3); stake(0, 0, 1000000)").refuses("draw(0, 0, 1000001)", BAD);
        run.is("draw(0, 0, 1000000)", 1);
    }

    private static void drawFull() {
        Run run = run("6: FULL: it is not so much (BAD is ahead of it)")
            .tell("node(0, 0); node(0, 0); fund(2, 150); stake(2, 0, 100)");
        run.refusesEach("draw(2, 0, #)", FULL, 101, 102, 150, 1_000_000).refuses("draw(2, 1, 1)", FULL)
            .refuses("draw(0, 0, 1)", FULL);
        run.is("draw(2, 0, 99)", 1).refuses("draw(2, 0, 2)", FULL).is("draw(2, 0, 1)", 0).refuses("draw(2, 0, 1)", FULL);
        run.refuses("draw(2, 0, 0)", BAD).refuses("draw(2, 0, 1000001)", BAD).refuses("draw(2, 2, 1)", BAD)
            .refuses("draw(10, 0, 1)", BAD);
        run.is("drawn(2, 2)", 100).is("staked(2, 0)", 0).is("balance(2)", 50);
    }

    private static void drawTurn() {
        Run run = busy("6: TURN: the NODE is FROZEN (BAD and FULL are ahead of it)");
        run.refusesEach("draw(1, 1, #)", TURN, 1, 199, 200).refusesEach("draw(1, 1, #)", FULL, 201, 1_000_000);
        run.refusesEach("draw(1, 1, #)", BAD, 0, 1_000_001).refusesEach("draw(#, 1, 1)", BAD, -1, 10);
        run.is("freeze(1, false)", 1).is("draw(1, 1, 200)", 0).tell("freeze(0, true)").refuses("draw(0, 0, 1)", TURN);
        run.is("draw(9, 2, 1)", 99).is("draw(9, 3, 1)", 59).is("draw(0, 4, 1)", 4);
    }

    private static void drawDue() {
        run("6: due at HEIGHT and WAIT");
        for (int wait : new int[] {1, 9}) {
            Run run = more().tell("rule(0, " + wait + "); node(0, 0); fund(1, 9); stake(1, 0, 9)");
            run.is("draw(1, 0, 1)", 8).is("drawn(1, " + wait + ")", 1).tell("advance(100)").is("drawn(1, -1)", 0)
                .is("balance(1)", 1);
            run.is("draw(1, 0, 2)", 6).is("drawn(1, " + (100 + wait) + ")", 2).is("drawn(1, -1)", 2).is("balance(1)", 1);
        }
        Run two = more().tell("node(0, 0); node(0, 0); fund(1, 9); stake(1, 0, 4); stake(1, 1, 5)");
        two.is("draw(1, 0, 1)", 3).is("draw(1, 1, 2)", 3).is("drawn(1, 2)", 3).is("drawn(1, 1)", 0).is("drawn(1, 3)", 0);
    }

    private static void joinNode() {
        busy("7: BAD: no NODE").refusesEach("join(#)", BAD, NO_NODE).is("join(4)", 4);
    }

    private static void joinTurn() {
        Run run = busy("7: TURN: it is not OUT").refusesEach("join(#)", TURN, 0, 1, 2, 3).is("join(4)", 4)
            .refuses("join(4)", TURN);
        run.tell("advance(1)").refuses("join(2)", TURN).tell("advance(1)").is("join(2)", 6).refuses("join(2)", TURN);
        more().tell("node(0, 0); freeze(0, true)").is("join(0)", 1).refuses("join(0)", TURN).tell("advance(1)")
            .is("about(0, 0)", 2);
    }

    private static void joinNextHeight() {
        run("7: the next HEIGHT").tell("node(0, 0); node(0, 0); node(0, 0)").is("join(0)", 1).tell("advance(99)")
            .is("join(1)", 100)
            .tell("advance(1)").is("about(1, 0)", 2).is("join(2)", 101).is("about(2, 0)", 1).refuses("advance(1)", FULL);
    }

    private static void leaveNode() {
        busy("8: BAD: no NODE").refusesEach("leave(#)", BAD, NO_NODE).is("leave(0)", 6);
    }

    private static void leaveTurn() {
        Run run = busy("8: TURN: it is not IN, or it is FROZEN").refusesEach("leave(#)", TURN, 1, 2, 3, 4);
        run.is("leave(0)", 6).refuses("leave(0)", TURN).tell("freeze(1, false)").is("leave(1)", 6).tell("freeze(2, true)");
        run.refuses("leave(2)", TURN).is("about(2, 2)", 5).tell("advance(3)").refusesEach("leave(#)", TURN, 0, 1, 2);
        run.is("leave(3)", 9).tell("freeze(4, true)").refuses("leave(4)", TURN);
    }

    private static void leaveDue() {
        run("8: due at HEIGHT and WAIT: that");
        for (int wait : new int[] {1, 9}) {
            Run run = more().tell("rule(0, " + wait + "); node(0, 0); node(0, 0); join(0); join(1); advance(1)");
            run.is("leave(0)", 1 + wait).is("about(0, 2)", 1 + wait).tell("advance(" + wait + ")").is("about(0, 0)", 0)
                .is("about(1, 0)", 2);
            run.tell("advance(" + (99 - wait) + ")").is("leave(1)", 100 + wait).is("about(1, 2)", 100 + wait)
                .is("about(1, 0)", 3);
        }
    }

    private static void freezeNode() {
        busy("9: BAD: no NODE").refusesEach("freeze(#, true)", BAD, NO_NODE).refusesEach("freeze(#, false)", BAD, NO_NODE)
            .is("freeze(0, true)", 0).is("freeze(4, true)", 0);
    }

    private static void freezeWas() {
        Run run = busy("9: 1 it was, 0");
        for (int node : new int[] {0, 2, 3, 4}) {
            run.is("freeze(" + node + ", false)", 0).is("freeze(" + node + ", true)", 0).is("freeze(" + node + ", true)", 1);
            run.is("about(" + node + ", 1)", 1).is("freeze(" + node + ", false)", 1).is("freeze(" + node + ", false)", 0);
            run.is("about(" + node + ", 1)", 0);
        }
        run.is("about(1, 1)", 1).is("about(0, 0)", 2).is("about(2, 0)", 3).is("about(3, 0)", 1).is("about(4, 0)", 0);
        run.tell("freeze(3, true); freeze(2, true); advance(2)").is("about(3, 0)", 2).is("about(3, 1)", 1);
        run.is("about(2, 0)", 0).is("about(2, 1)", 1).is("about(2, 2)", NONE);
    }

    private static void advanceN() {
        run("10: so many new HEIGHTS (1 .. 100)").refusesEach("advance(#)", BAD, 0, 101, -1, LEAST, MOST).is("advance(1)", 1);
        more().is("advance(100)", 100);
        busy("10: n, in the midst").refusesEach("advance(#)", BAD, 0, 101, -1, LEAST, MOST).is("advance(1)", 4)
            .is("advance(2)", 6);
    }

    private static void advanceFull() {
        Run run = run("10: FULL: it would be above 100 (BAD is ahead of it)").tell("advance(1)").refuses("advance(100)", FULL);
        run.is("advance(98)", 99).refusesEach("advance(#)", FULL, 2, 100).is("advance(1)", 100)
            .refusesEach("advance(#)", FULL, 1, 2, 99, 100);
        run.refusesEach("advance(#)", BAD, 0, 101, -1, LEAST, MOST).is("count(0)", 100);
    }

    private static void advanceNoneIsDone() {
        busy("10: none is done").refusesEach("advance(#)", FULL, 98, 99, 100).is("count(0)", 3).is("advance(97)", 100);
        run("10: none is done at 100").tell(Stories.TALL).refusesEach("advance(#)", FULL, 1, 100).is("drawn(9, 103)", 11);
    }
}
