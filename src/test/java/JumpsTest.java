/** Promises 17 to 20: certificates, jumps, ways. */
public final class JumpsTest {
    private static final int BAD = -1, NONE = -2;
    private static final int LEAST = Integer.MIN_VALUE, MOST = Integer.MAX_VALUE;
    private static final Check CHECK = new Check("JumpsTest");

    public static void main(String[] args) {
        promise17Judge();
        promise18Jump();
        promise18JumpBySetsAlone();
        promise19Overlap();
        promise20Way();
        promise20WayOfLikeOnes();
        promise20WayThereIsNone();
        promise20WayBySetsAlone();
        promise20WayToTheLastHeight();
        CHECK.end();
    }

    private static void due(String what, int got, int want) {
        CHECK.due(what, got, want);
    }

    /** As many NODES as there are stakes, each one JOINS; the SET of each HEIGHT has the NODES of its bits. */
    private static NodeWeights withSets(int[] stakes, int... bits) {
        NodeWeights x = new NodeWeights();
        for (int node = 0; node < stakes.length; node++) {
            x.node(node, 0);
            x.fund(node, stakes[node]);
            x.stake(node, node, stakes[node]);
            x.join(node);
        }
        for (int set : bits) {
            for (int node = 0; node < stakes.length; node++) x.freeze(node, (set >> node & 1) == 0);
            x.advance(1);
        }
        return x;
    }

    private static void promise17Judge() {
        NodeWeights x = withSets(new int[] {10, 10, 10, 1}, 7, 15);
        due("two thirds alone", x.judge(1, 3), 0);
        due("all three", x.judge(1, 7), 1);
        due("one of no WEIGHT does not help", x.judge(1, 11), 0);
        due("20 of 31", x.judge(2, 3), 0);
        due("21 of 31", x.judge(2, 11), 1);
        due("no bits", x.judge(2, 0), 0);
        due("all bits at HEIGHT 0", x.judge(0, 15), 0);
        for (int height : new int[] {-1, 3, 101, LEAST, MOST}) due("judge(" + height + ", 1)", x.judge(height, 1), BAD);
        for (int bits : new int[] {16, 17, 256, -1, LEAST, MOST}) due("judge(1, " + bits + ")", x.judge(1, bits), BAD);
        NodeWeights eight = withSets(new int[] {1, 1, 1, 1, 1, 1, 1, 1}, 255);
        due("five of eight", eight.judge(1, 31), 0);
        due("six of eight", eight.judge(1, 0xFC), 1);
        due("a bit of a ninth", eight.judge(1, 0x1FF), BAD);
    }

    private static void promise18Jump() {
        NodeWeights x = withSets(new int[] {10, 10, 10, 1}, 7, 1, 9, 15);
        due("just a third of SET 1", x.jump(1, 2, 1), 0);
        due("two thirds of SET 1", x.jump(1, 2, 3), 1);
        due("not GOOD for 2", x.jump(1, 2, 2), 0);
        due("GOOD for 4, all of 2", x.jump(2, 4, 7), 1);
        due("not GOOD for 4", x.jump(2, 4, 3), 0);
        due("GOOD for 4, none of 3 but the least", x.jump(3, 4, 14), 0);
        due("from HEIGHT 0", x.jump(0, 1, 7), 0);
        due("to the same one", x.jump(2, 2, 1), BAD);
        due("downward", x.jump(3, 2, 1), BAD);
        for (int height : new int[] {-1, LEAST}) due("from no HEIGHT", x.jump(height, 1, 1), BAD);
        for (int height : new int[] {5, 101, MOST}) {
            due("to no HEIGHT", x.jump(1, height, 1), BAD);
            due("from and to no HEIGHT", x.jump(height, height + 1, 1), BAD);
        }
        for (int bits : new int[] {16, -1, LEAST, MOST}) due("other bits", x.jump(1, 2, bits), BAD);
    }

    private static void promise18JumpBySetsAlone() {
        NodeWeights x = withSets(new int[] {10, 10}, 3, 3);
        x.freeze(0, true);
        x.draw(1, 1, 10);
        due("what has changed since does not count", x.jump(1, 2, 3), 1);
    }

    private static void promise19Overlap() {
        NodeWeights x = withSets(new int[] {10, 20, 30}, 7, 5);
        x.fund(0, 5);
        x.stake(0, 0, 5);
        x.draw(2, 2, 12);
        x.advance(1);
        due("overlap(1, 2)", x.overlap(1, 2), 40);
        due("overlap(2, 1)", x.overlap(2, 1), 40);
        due("overlap(2, 3): one more, one less", x.overlap(2, 3), 10 + 18);
        due("overlap(3, 3)", x.overlap(3, 3), 15 + 18);
        due("overlap(0, 3)", x.overlap(0, 3), 0);
        for (int height : new int[] {-1, 4, 101, LEAST, MOST}) {
            due("overlap(" + height + ", 1)", x.overlap(height, 1), BAD);
            due("overlap(1, " + height + ")", x.overlap(1, height), BAD);
        }
    }

    private static void isWay(NodeWeights x, int... heights) {
        int from = heights[0];
        int jumps = heights.length - 1;
        int to = heights[jumps];
        due("way(" + from + ", " + to + ", -1)", x.way(from, to, -1), jumps);
        for (int i = 0; i <= jumps; i++) due("way(" + from + ", " + to + ", " + i + ")", x.way(from, to, i), heights[i]);
        for (int i : new int[] {jumps + 1, -2, LEAST, MOST}) due("no such i: " + i, x.way(from, to, i), BAD);
    }

    private static void promise20Way() {
        NodeWeights x = withSets(new int[] {10, 10, 10}, 1, 3, 2, 6, 4);
        isWay(x, 1, 2);
        isWay(x, 1, 2, 3);
        isWay(x, 1, 2, 4);
        isWay(x, 1, 2, 4, 5);
        isWay(x, 2, 4, 5);
        isWay(x, 4, 5);
        isWay(x, 1, 2, 4);
        isWay(x, 1, 2, 3);
        isWay(x, 3, 4);
        for (int height : new int[] {-1, 6, 101, LEAST, MOST}) {
            due("from no HEIGHT", x.way(height, 5, 0), BAD);
            due("to no HEIGHT", x.way(1, height, 0), BAD);
        }
        due("to the same one", x.way(2, 2, 0), BAD);
        due("downward", x.way(3, 2, 0), BAD);
    }

    private static void promise20WayOfLikeOnes() {
        isWay(withSets(new int[] {10, 10}, 1, 3, 3, 2), 1, 3, 4);
        isWay(withSets(new int[] {10, 10, 10}, 1, 3, 3, 6, 6, 4), 1, 3, 5, 6);
        // By way of 3 the next one can only be 4, by way of 2 it could be 5: the first one decides.
        isWay(withSets(new int[] {10, 10, 10, 10, 10}, 1, 9, 3, 18, 24, 16), 1, 3, 4, 6);
        isWay(withSets(new int[] {1, 1, 1}, 7, 7, 7, 7), 1, 4);
        // By way of 4 it would be a JUMP more: fewer ones come first.
        isWay(withSets(new int[] {10, 10, 10, 10}, 1, 5, 8, 3, 6, 4), 1, 2, 6);
    }

    private static void promise20WayThereIsNone() {
        NodeWeights x = withSets(new int[] {10, 10}, 1, 2, 0, 2);
        due("nothing in common", x.way(1, 2, -1), NONE);
        due("NONE is ahead of BAD for i", x.way(1, 2, 99), NONE);
        due("NONE is ahead of BAD for i", x.way(1, 2, -2), NONE);
        due("to a SET without weights", x.way(2, 3, -1), NONE);
        due("from a SET without weights", x.way(3, 4, -1), NONE);
        due("over a SET without weights", x.way(2, 4, -1), 1);
        due("from HEIGHT 0", x.way(0, 1, 0), NONE);
        due("BAD for HEIGHTS is ahead of NONE", x.way(1, 5, -1), BAD);
        NodeWeights third = withSets(new int[] {10, 10, 10}, 7, 1);
        due("just a third", third.way(1, 2, -1), NONE);
    }

    private static void promise20WayBySetsAlone() {
        // NODE 0 is IN at 2 without a STAKE: it has no WEIGHT there, so the JUMP is not by it.
        NodeWeights x = withSets(new int[] {10, 1}, 3);
        x.draw(0, 0, 10);
        x.advance(1);
        due("by both", x.jump(1, 2, 3), 1);
        due("by the one with a WEIGHT", x.jump(1, 2, 2), 0);
        due("way(1, 2, -1)", x.way(1, 2, -1), NONE);
    }

    private static void promise20WayToTheLastHeight() {
        NodeWeights x = withSets(new int[] {10, 10, 10}, 1, 3);
        x.advance(97);
        x.freeze(0, true);
        x.advance(1);
        isWay(x, 1, 99, 100);
        isWay(x, 50, 100);
        due("overlap(1, 100)", x.overlap(1, 100), 0);
        due("way(1, 101, 0)", x.way(1, 101, 0), BAD);
    }
}
