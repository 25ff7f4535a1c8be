import java.util.ArrayList;
import java.util.LinkedHashSet;
import java.util.List;
import java.util.Set;

/**
 * A run of calls, as texts, on a new object. What is told is remembered, so that the run can be told to other
 * objects: a refused call must leave an object that no question tells from one without that call.
 */
final class Run {
    private static final int MOST_CALLS = 512;

    private final Check check;
    private final List<Call> told = new ArrayList<>();
    private final NodeWeights x = new NodeWeights();
    private int calls = 0;

    Run(Check check) {
        this.check = check;
    }

    /** Calls with a ';' between them, none of which may be refused. */
    Run tell(String texts) {
        for (String text : texts.split(";")) {
            if (!text.isBlank()) check.holds(text.strip() + " is done", answer(Call.of(text)) >= 0);
        }
        return this;
    }

    Run is(String text, int want) {
        String name = after() + text;
        check.due(name, answer(Call.of(text)), want);
        return this;
    }

    /** As is(), once with each of the values at the place of '#'. */
    Run each(String text, int want, int... values) {
        for (int v : values) is(text.replace("#", Integer.toString(v)), want);
        return this;
    }

    /** A call that is refused, and by which nothing may change, neither now nor at the next HEIGHT. */
    Run refuses(String text, int want) {
        check.due(after() + text, Call.of(text).on(retold()), want);
        return asks(text);
    }

    /** A call by which nothing may change, whatever it answers. */
    Run asks(String text) {
        int top = retold().count(0);
        List<Call> questions = questions(top);
        compare(Call.of(text), questions, null);
        if (top < 100) compare(Call.of(text), questions, Call.of("advance(1)"));
        return this;
    }

    /** As refuses(), once with each of the values at the place of '#'. */
    Run refusesEach(String text, int want, int... values) {
        for (int v : values) refuses(text.replace("#", Integer.toString(v)), want);
        return this;
    }

    private int answer(Call call) {
        calls++;
        if (calls > MOST_CALLS) throw new IllegalStateException("a run of more than 512 calls says nothing");
        if (call.tells()) told.add(call);
        return call.on(x);
    }

    private String after() {
        return told.isEmpty() ? "" : ".. " + told.get(told.size() - 1).text() + ", ";
    }

    private NodeWeights retold() {
        NodeWeights y = new NodeWeights();
        for (Call call : told) call.on(y);
        return y;
    }

    private void compare(Call call, List<Call> questions, Call then) {
        int room = MOST_CALLS - told.size() - 2;
        if (room < 1) throw new IllegalStateException("a run that leaves no room for questions");
        for (int first = 0; first < questions.size(); first += room) {
            NodeWeights with = retold();
            NodeWeights without = retold();
            call.on(with);
            if (then != null) {
                then.on(with);
                then.on(without);
            }
            int end = Math.min(questions.size(), first + room);
            for (Call question : questions.subList(first, end)) {
                String name = question.text() + " after " + call.text() + (then == null ? "" : ", " + then.text());
                check.due(name, question.on(with), question.on(without));
            }
        }
    }

    private static List<Call> questions(int top) {
        List<String> texts = new ArrayList<>();
        for (int what = 0; what <= 10; what++) texts.add("count(" + what + ")");
        for (int account = 0; account < 10; account++) {
            texts.add("balance(" + account + ")");
            for (int node = -1; node < 8; node++) texts.add("staked(" + account + ", " + node + ")");
            for (int height = 1; height <= 109; height++) texts.add("drawn(" + account + ", " + height + ")");
        }
        for (int node = -1; node < 8; node++) {
            for (int what = 0; what < 6; what++) texts.add("about(" + node + ", " + what + ")");
            for (int height : heights(top)) {
                texts.add("weight(" + node + ", " + height + ")");
                texts.add("reward(" + node + ", " + height + ")");
            }
        }
        for (int a : heights(top)) {
            texts.add("judge(" + a + ", 1)");
            for (int b : heights(top)) {
                texts.add("jump(" + a + ", " + b + ", 1)");
                texts.add("overlap(" + a + ", " + b + ")");
                texts.add("way(" + a + ", " + b + ", -1)");
            }
        }
        List<Call> questions = new ArrayList<>();
        for (String text : texts) questions.add(Call.of(text));
        return questions;
    }

    private static Set<Integer> heights(int top) {
        Set<Integer> heights = new LinkedHashSet<>();
        for (int h = 0; h <= 3; h++) heights.add(h);
        for (int h = top - 2; h <= top + 2; h++) heights.add(h);
        return heights;
    }
}
