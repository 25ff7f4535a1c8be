/** One call, read from a text such as "stake(0, 1, 25)". */
record Call(String name, int[] args, boolean on, String text) {
    private static final String TELL = " rule fund node stake draw join leave freeze advance ";

    static Call of(String text) {
        String it = text.strip();
        int open = it.indexOf('(');
        String[] parts = it.substring(open + 1, it.length() - 1).split(",");
        int[] args = new int[3];
        boolean on = false;
        for (int i = 0; i < parts.length; i++) {
            String part = parts[i].strip();
            if (part.equals("true") || part.equals("false")) on = part.equals("true");
            else args[i] = Integer.parseInt(part);
        }
        return new Call(it.substring(0, open), args, on, it);
    }

    boolean tells() {
        return TELL.contains(" " + name + " ");
    }

    int on(NodeWeights x) {
        int a = args[0];
        int b = args[1];
        int c = args[2];
        return switch (name) {
            case "rule" -> x.rule(a, b);
            case "fund" -> x.fund(a, b);
            case "node" -> x.node(a, b);
            case "stake" -> x.stake(a, b, c);
            case "draw" -> x.draw(a, b, c);
            case "join" -> x.join(a);
            case "leave" -> x.leave(a);
            case "freeze" -> x.freeze(a, on);
            case "advance" -> x.advance(a);
            case "balance" -> x.balance(a);
            case "staked" -> x.staked(a, b);
            case "drawn" -> x.drawn(a, b);
            case "about" -> x.about(a, b);
            case "weight" -> x.weight(a, b);
            case "reward" -> x.reward(a, b);
            case "judge" -> x.judge(a, b);
            case "jump" -> x.jump(a, b, c);
            case "overlap" -> x.overlap(a, b);
            case "way" -> x.way(a, b, c);
            case "count" -> x.count(a);
            default -> throw new IllegalArgumentException(text);
        };
    }
}
