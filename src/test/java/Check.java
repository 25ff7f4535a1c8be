/** Counts answers that are not as due, and ends a test with exit code 1 if there was one. */
final class Check {
    private final String name;
    private String sentence = "";
    private int sentences = 0;
    private int seen = 0;
    private int wrong = 0;

    Check(String name) {
        this.name = name;
    }

    /** The sentence of the document that the next answers are about. */
    void sentence(String text) {
        sentence = " [" + text + "]";
        sentences++;
    }

    void due(String what, long got, long want) {
        seen++;
        if (got == want) return;
        wrong++;
        if (wrong <= 40) System.out.println(name + sentence + ": " + what + " answered " + got + ", due is " + want);
    }

    void holds(String what, boolean it) {
        due(what, it ? 1 : 0, 1);
    }

    boolean isClean() {
        return wrong == 0;
    }

    void end() {
        String of = sentences == 0 ? "" : sentences + " sentences, ";
        System.out.println(name + ": " + of + seen + " answers, " + wrong + " not as due");
        if (wrong != 0 || seen == 0) System.exit(1);
    }
}
