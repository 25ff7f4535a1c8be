/** The boundary cases of promises 17 to 20, one method for each sentence; a question changes nothing. */
public final class JumpsBoundsTest {
    private static final int BAD = -1, NONE = -2;
    private static final int LEAST = Integer.MIN_VALUE, MOST = Integer.MAX_VALUE;
    private static final int[] OTHER_BITS = {32, 33, 63, 128, 256, 1 << 30, -1, -32, LEAST, MOST};
    private static final Check CHECK = new Check("JumpsBoundsTest");

    public static void main(String[] args) {
        judgeHeight();
        judgeBits();
        judgeBitsOfEight();
        judgeAboveTwiceAll();
        judgeOfNothing();
        judgeBySetOfItsHeight();
        jumpHeights();
        jumpUpward();
        jumpBits();
        jumpGoodForTo();
        jumpAboveAllOfFrom();
        jumpFromNothing();
        overlapHeights();
        overlapOfLeast();
        wayHeights();
        wayUpward();
        wayI();
        wayINone();
        wayNoneOverADeadEnd();
        wayFewest();
        wayGreatestFirst();
        wayThenTheNextOne();
        wayByNodesWithAWeight();
        wayAtTheEnds();
        waysAskedInTurn();
        askingChangesNothing();
        CHECK.end();
    }

    private static Run run(String sentence) {
        CHECK.sentence(sentence);
        return more();
    }

    private static Run more() {
        return new Run(CHECK);
    }

    private static Run busy(String sentence) {
        return run(sentence).tell(Stories.BUSY);
    }

    /** NODES with these STAKES, IN from HEIGHT 1 on; no REWARDS. */
    private static Run nodesOf(int... stakes) {
        Run run = more().tell("rule(1, 0)");
        for (int node = 0; node < stakes.length; node++) {
            run.tell("node(9, 0); join(" + node + ")").tell(Stories.rich(node, stakes[node] / 100_000));
            if (stakes[node] % 100_000 != 0) run.tell("fund(" + node + ", " + stakes[node] % 100_000 + ")");
            if (stakes[node] != 0) run.tell("stake(" + node + ", " + node + ", " + stakes[node] + ")");
        }
        return run;
    }

    /** The next SETS have the NODES of these bits alone. */
    private static Run sets(Run run, int nodes, int... sets) {
        for (int set : sets) {
            for (int node = 0; node < nodes; node++) run.tell("freeze(" + node + ", " + ((set >> node & 1) == 0) + ")");
            run.tell("advance(1)");
        }
        return run;
    }

    /** A WAY, each HEIGHT of it, and no more. */
    private static void isWay(Run run, int... heights) {
        int jumps = heights.length - 1;
        String way = "way(" + heights[0] + ", " + heights[jumps] + ", ";
        run.is(way + "-1)", jumps);
        for (int i = 0; i <= jumps; i++) run.is(way + i + ")", heights[i]);
        run.is(way + (jumps + 1) + ")", BAD).is(way + "-2)", BAD);
    }

    private static void judgeHeight() {
        busy("17: BAD: no such HEIGHT").is("judge(0, 31)", 0).is("judge(1, 31)", 1).is("judge(3, 31)", 1)
            .refusesEach("judge(#, 31)", BAD, -1, 4, 5, 100, 101, LEAST, MOST).refusesEach("judge(#, 0)", BAD, -1, 4);
        run("17: HEIGHT 100").tell(Stories.TALL).is("judge(100, 31)", 1).is("judge(99, 31)", 1)
            .refusesEach("judge(#, 31)", BAD, 101, 102, -1);
    }

    private static void judgeBits() {
        busy("17: BAD: bits of other NODES").is("judge(1, 0)", 0).is("judge(1, 31)", 1).is("judge(1, 16)", 0)
            .refusesEach("judge(1, #)", BAD, OTHER_BITS).refusesEach("judge(0, #)", BAD, 32, -1)
            .tell("node(0, 0)").is("judge(1, 63)", 1).is("judge(1, 32)", 0).refuses("judge(1, 64)", BAD);
        run("17: one NODE").tell("node(0, 0)").is("judge(0, 1)", 0).refusesEach("judge(0, #)", BAD, 2, 3, -1, LEAST);
    }

    private static void judgeBitsOfEight() {
        run("17: bits of eight NODES").tell(Stories.FULL).is("judge(2, 255)", 1).is("judge(2, 127)", 1).is("judge(2, 128)", 0)
            .refusesEach("judge(2, #)", BAD, 256, 257, 511, 1 << 16, 1 << 24, -1, -256, LEAST, LEAST + 255, MOST);
    }

    private static void judgeAboveTwiceAll() {
        run("3: GOOD, if three times their WEIGHT is above twice ALL");
        // Three times 2 is like twice 3, three times 3 is one above twice 4, three times 3 is one below twice 5.
        nodesOf(2, 1).tell("advance(1)").is("judge(1, 1)", 0).is("judge(1, 3)", 1).is("judge(1, 2)", 0);
        nodesOf(3, 1).tell("advance(1)").is("judge(1, 1)", 1).is("judge(1, 2)", 0);
        nodesOf(3, 2).tell("advance(1)").is("judge(1, 1)", 0).is("judge(1, 2)", 0).is("judge(1, 3)", 1);
        nodesOf(2, 2, 2).tell("advance(1)").each("judge(1, #)", 0, 0, 1, 2, 3, 4, 5, 6).is("judge(1, 7)", 1);
        nodesOf(666_666, 333_334).tell("advance(1)").is("judge(1, 1)", 0).is("judge(1, 3)", 1);
        nodesOf(666_667, 333_333).tell("advance(1)").is("judge(1, 1)", 1).is("judge(1, 2)", 0);
        nodesOf(600_000, 300_000).tell("advance(1)").is("judge(1, 1)", 0).is("judge(1, 3)", 1);
    }

    private static void judgeOfNothing() {
        run("3: GOOD: a SET without weights, a set without NODES");
        nodesOf(5).tell("freeze(0, true); advance(1)").is("judge(1, 1)", 0).is("judge(1, 0)", 0).is("judge(0, 1)", 0)
            .is("judge(0, 0)", 0);
        nodesOf(1).tell("advance(1)").is("judge(1, 1)", 1).is("judge(1, 0)", 0);
    }

    private static void judgeBySetOfItsHeight() {
        run("17: by the SET of its HEIGHT");
        Run run = sets(nodesOf(10, 10, 10), 3, 1, 2).tell("freeze(0, false); freeze(2, false); draw(1, 1, 10)");
        run.is("judge(1, 1)", 1).is("judge(1, 6)", 0).is("judge(2, 2)", 1).is("judge(2, 5)", 0);
    }

    private static void jumpHeights() {
        Run run = busy("18: BAD: no such HEIGHTS").is("jump(1, 3, 31)", 1).is("jump(1, 2, 31)", 1).is("jump(2, 3, 31)", 1)
            .is("jump(0, 3, 31)", 0);
        run.refusesEach("jump(#, 3, 31)", BAD, -1, 4, 5, LEAST, MOST)
            .refusesEach("jump(1, #, 31)", BAD, -1, 4, 5, 100, 101, LEAST, MOST);
        run.refuses("jump(3, 4, 31)", BAD).refuses("jump(4, 5, 31)", BAD).refuses("jump(-1, 0, 31)", BAD)
            .refuses("jump(-2, -1, 31)", BAD);
        run("18: HEIGHT 100").tell(Stories.TALL).is("jump(99, 100, 31)", 1).is("jump(1, 100, 31)", 1)
            .refuses("jump(100, 101, 31)", BAD)
            .refuses("jump(99, 101, 31)", BAD).refuses("jump(100, 100, 31)", BAD).refuses("jump(100, 99, 31)", BAD);
    }

    private static void jumpUpward() {
        busy("18: BAD: not from a lesser one to a greater one").is("jump(2, 3, 31)", 1).refuses("jump(3, 3, 31)", BAD)
            .refuses("jump(3, 2, 31)", BAD).refuses("jump(0, 0, 0)", BAD).refuses("jump(1, 0, 31)", BAD);
    }

    private static void jumpBits() {
        busy("18: BAD: bits of other NODES").is("jump(1, 2, 0)", 0).is("jump(1, 2, 31)", 1)
            .refusesEach("jump(1, 2, #)", BAD, OTHER_BITS)
            .refusesEach("jump(0, 1, #)", BAD, 32, -1).tell("node(0, 0)").is("jump(1, 2, 63)", 1).refuses("jump(1, 2, 64)", BAD);
        run("18: bits of eight NODES").tell(Stories.FULL).is("jump(1, 2, 255)", 1)
            .refusesEach("jump(1, 2, #)", BAD, 256, 511, -1, LEAST, MOST);
    }

    private static void jumpGoodForTo() {
        run("3: a JUMP is allowed, if that is GOOD for h");
        // All of SET 1, but just two thirds of SET 2, and one more than that.
        Run two = sets(nodesOf(2, 1), 2, 1, 3);
        two.is("jump(1, 2, 1)", 0).is("jump(1, 2, 3)", 1).is("jump(1, 2, 2)", 0);
        Run three = sets(nodesOf(3, 1), 2, 1, 3);
        three.is("jump(1, 2, 1)", 1);
        Run below = sets(nodesOf(3, 2), 2, 1, 3);
        below.is("jump(1, 2, 1)", 0).is("jump(1, 2, 3)", 1);
    }

    private static void jumpAboveAllOfFrom() {
        run("3: and three times their WEIGHT in SET g is above ALL of that");
        // Three times 1 is like 3, is one above 2, is one below 4.
        sets(nodesOf(1, 2), 2, 3, 1).is("jump(1, 2, 1)", 0).is("jump(1, 2, 3)", 1).is("jump(1, 2, 2)", 0);
        sets(nodesOf(1, 1), 2, 3, 1).is("jump(1, 2, 1)", 1);
        sets(nodesOf(1, 3), 2, 3, 1).is("jump(1, 2, 1)", 0).is("jump(1, 2, 3)", 1);
        sets(nodesOf(300_000, 600_000), 2, 3, 1).is("jump(1, 2, 1)", 0);
        sets(nodesOf(333_334, 666_666), 2, 3, 1).is("jump(1, 2, 1)", 1);
        sets(nodesOf(333_333, 666_667), 2, 3, 1).is("jump(1, 2, 1)", 0);
    }

    private static void jumpFromNothing() {
        run("3: a JUMP from or to a SET without weights");
        sets(nodesOf(5, 5), 2, 3, 0, 3).is("jump(0, 1, 3)", 0).is("jump(1, 2, 3)", 0).is("jump(2, 3, 3)", 0)
            .is("jump(1, 3, 3)", 1).is("jump(1, 3, 0)", 0);
    }

    private static void overlapHeights() {
        busy("19: BAD: no such HEIGHTS").is("overlap(0, 3)", 0).is("overlap(3, 3)", 527).is("overlap(1, 1)", 757)
            .refusesEach("overlap(#, 1)", BAD, -1, 4, 5, 100, 101, LEAST, MOST)
            .refusesEach("overlap(1, #)", BAD, -1, 4, 5, 100, 101, LEAST, MOST)
            .refuses("overlap(-1, -1)", BAD).refuses("overlap(4, 4)", BAD);
        run("19: HEIGHT 100").tell(Stories.TALL).is("overlap(100, 100)", 475).is("overlap(100, 0)", 0).is("overlap(1, 100)", 415)
            .refusesEach("overlap(100, #)", BAD, 101, -1).refusesEach("overlap(#, 100)", BAD, 101, -1);
    }

    private static void overlapOfLeast() {
        busy("19: the least of the WEIGHTS that each NODE has in two SETS, together").is("overlap(1, 3)", 420 + 107)
            .is("overlap(3, 1)", 527)
            .tell("freeze(1, false); freeze(0, true); advance(1)").is("overlap(3, 4)", 107).is("overlap(1, 4)", 200 + 107);
        run("19: nothing in common");
        sets(nodesOf(5, 6), 2, 1, 2, 0).is("overlap(1, 2)", 0).is("overlap(1, 3)", 0).is("overlap(3, 3)", 0)
            .is("overlap(2, 2)", 6);
        run("19: the last of eight").tell(Stories.FULL).tell("join(7); advance(1); draw(7, 7, 1); advance(1)")
            .is("overlap(3, 4)", 127_999);
    }

    private static void wayHeights() {
        Run run = busy("20: BAD: no such HEIGHTS").is("way(1, 3, -1)", 1).is("way(2, 3, 0)", 2);
        run.refusesEach("way(#, 3, -1)", BAD, -1, 4, 5, LEAST, MOST)
            .refusesEach("way(1, #, -1)", BAD, -1, 4, 5, 100, 101, LEAST, MOST);
        run.refuses("way(3, 4, 0)", BAD).refuses("way(0, 4, 0)", BAD).refuses("way(-1, 0, 0)", BAD);
    }

    private static void wayUpward() {
        busy("20: from one to a greater one").is("way(2, 3, -1)", 1).refuses("way(3, 3, -1)", BAD).refuses("way(3, 3, 0)", BAD)
            .refuses("way(3, 2, -1)", BAD).refuses("way(0, 0, -1)", BAD).refuses("way(1, 0, 0)", BAD);
    }

    private static void wayI() {
        run("20: i = 0: the first one itself; i = - 1: how many JUMPS; BAD: no such i");
        Run run = sets(nodesOf(10, 10, 10), 3, 1, 3, 2, 6, 4);
        run.is("way(1, 5, -1)", 3).is("way(1, 5, 0)", 1).is("way(1, 5, 1)", 2).is("way(1, 5, 2)", 4).is("way(1, 5, 3)", 5);
        run.refusesEach("way(1, 5, #)", BAD, 4, 5, -2, 100, LEAST, MOST);
        run.is("way(1, 2, -1)", 1).is("way(1, 2, 0)", 1).is("way(1, 2, 1)", 2).refusesEach("way(1, 2, #)", BAD, 2, -2);
    }

    private static void wayINone() {
        run("20: NONE: there is none (ahead of BAD for i)");
        Run run = sets(nodesOf(10, 10), 2, 1, 2, 0);
        run.refusesEach("way(1, 2, #)", NONE, -1, 0, 1, 2, -2, LEAST, MOST).refusesEach("way(2, 3, #)", NONE, -1, 0, -2, 1);
        run.refusesEach("way(0, 1, #)", NONE, -1, 0, 1, -2, MOST);
        run.refusesEach("way(1, 4, #)", BAD, -1, 0, -2).refuses("way(2, 2, -2)", BAD).refuses("way(2, 1, -1)", BAD);
    }

    private static void wayNoneOverADeadEnd() {
        run("20: NONE: JUMPS that lead on, but not there");
        Run run = sets(nodesOf(10, 10), 2, 1, 1, 1, 2).is("way(1, 3, -1)", 1).is("way(2, 3, -1)", 1);
        run.refusesEach("way(1, 4, #)", NONE, -1, 0, 1, -2).refusesEach("way(2, 4, #)", NONE, -1, 9);
        // A JUMP to 3 would be the greatest one, but none leads on from there.
        isWay(sets(nodesOf(10, 10), 2, 1, 3, 1, 2), 1, 2, 4);
    }

    private static void wayFewest() {
        run("3: THE BEST: the fewest JUMPS");
        isWay(sets(nodesOf(1, 1, 1), 3, 7, 7, 7), 1, 3);
        // By way of 4 it would be a JUMP more than by way of 2.
        isWay(sets(nodesOf(10, 10, 10, 10), 4, 1, 5, 8, 3, 6, 4), 1, 2, 6);
    }

    private static void wayGreatestFirst() {
        run("3: of like ones the greatest HEIGHT first");
        isWay(sets(nodesOf(10, 10), 2, 1, 3, 3, 3, 2), 1, 4, 5);
        // By way of 3 the next one can only be 4, by way of 2 it could be 5: the first one decides.
        isWay(sets(nodesOf(10, 10, 10, 10, 10), 5, 1, 9, 3, 18, 24, 16), 1, 3, 4, 6);
    }

    private static void wayThenTheNextOne() {
        run("3: then the next one");
        isWay(sets(nodesOf(10, 10, 10), 3, 1, 3, 6, 6, 6, 4), 1, 2, 5, 6);
        isWay(sets(nodesOf(10, 10, 10, 10), 4, 1, 3, 6, 6, 12, 12, 8), 1, 2, 4, 6, 7);
    }

    private static void wayByNodesWithAWeight() {
        run("3: each by all NODES that have a WEIGHT above 0 in SET h'");
        // NODE 0 is IN at 2 without a STAKE: the JUMP is by NODE 1 alone, which has one of eleven in SET 1.
        Run none = nodesOf(10, 1).tell("advance(1); draw(0, 0, 10); advance(1)").is("weight(0, 2)", 0);
        none.is("jump(1, 2, 3)", 1).is("jump(1, 2, 2)", 0).refuses("way(1, 2, -1)", NONE);
        Run one = nodesOf(10, 1).tell("advance(1); draw(0, 0, 9); advance(1)").is("weight(0, 2)", 1);
        one.is("jump(1, 2, 3)", 1).is("way(1, 2, -1)", 1);
        Run third = sets(nodesOf(1, 2), 2, 3, 1);
        third.refuses("way(1, 2, -1)", NONE);
        sets(nodesOf(1, 1), 2, 3, 1).is("way(1, 2, -1)", 1);
    }

    private static void wayAtTheEnds() {
        run("20: to HEIGHT 100, from HEIGHT 0, and over HEIGHTS without weights");
        Run tall = sets(nodesOf(10, 10), 2, 1, 3).tell("advance(97)");
        sets(tall, 2, 2);
        isWay(tall, 1, 99, 100);
        isWay(tall, 2, 100);
        isWay(tall, 99, 100);
        tall.refuses("way(0, 100, -1)", NONE).refuses("way(0, 100, -2)", NONE).refuses("way(100, 100, 0)", BAD)
            .refuses("way(100, 101, 0)", BAD);
        isWay(sets(nodesOf(10, 10), 2, 3, 0, 0, 3), 1, 4);
    }

    private static void waysAskedInTurn() {
        run("20: a WAY that was asked for leaves nothing behind for the next one");
        Run run = sets(nodesOf(10, 10, 10), 3, 1, 3, 2, 6, 4);
        for (int turn = 0; turn < 2; turn++) {
            isWay(run, 1, 2, 4, 5);
            isWay(run, 2, 4);
            isWay(run, 1, 2, 3);
            isWay(run, 3, 4, 5);
            run.is("way(0, 5, -1)", NONE);
        }
    }

    private static void askingChangesNothing() {
        busy("17 to 20: certificates, jumps and ways are only asked for").asks("judge(1, 31)").asks("judge(1, 1)")
            .asks("jump(1, 3, 31)")
            .asks("jump(1, 3, 1)").asks("overlap(1, 3)").asks("way(1, 3, -1)").asks("way(1, 2, 1)").asks("way(0, 3, -1)");
    }
}
