import java.io.IOException;
import java.lang.reflect.Constructor;
import java.lang.reflect.Field;
import java.lang.reflect.Method;
import java.lang.reflect.Modifier;
import java.nio.file.Files;
import java.nio.file.Path;
import java.util.Arrays;
import java.util.TreeSet;
import java.util.regex.Matcher;
import java.util.regex.Pattern;

/** The document's face, and the rules of LANGUAGE.md that can be read from the class and its text. */
public final class FormTest {
    private static final Check CHECK = new Check("FormTest");
    private static final String[] FACE = {
        "rule(int,int)", "fund(int,int)", "node(int,int)", "stake(int,int,int)", "draw(int,int,int)", "join(int)",
        "leave(int)", "freeze(int,boolean)", "advance(int)", "balance(int)", "staked(int,int)", "drawn(int,int)",
        "about(int,int)", "weight(int,int)", "reward(int,int)", "judge(int,int)", "jump(int,int,int)",
        "overlap(int,int)", "way(int,int,int)", "count(int)"};

    public static void main(String[] args) throws IOException {
        face();
        ownClasses();
        String code = withoutComments(Files.readString(Path.of("src/main/java/NodeWeights.java")));
        words(code);
        CHECK.end();
    }

    private static void same(String what, TreeSet<String> got, TreeSet<String> want) {
        CHECK.holds(what + ": " + got + " instead of " + want, got.equals(want));
    }

    private static void face() {
        int mods = NodeWeights.class.getModifiers();
        CHECK.holds("rule 1: public and final", Modifier.isPublic(mods) && Modifier.isFinal(mods));
        TreeSet<String> methods = new TreeSet<>();
        TreeSet<String> hidden = new TreeSet<>();
        for (Method m : NodeWeights.class.getDeclaredMethods()) {
            if (m.isSynthetic()) continue;
            if (Modifier.isPrivate(m.getModifiers())) hidden.add(m.getName());
            else methods.add(m.getName() + Arrays.toString(m.getParameterTypes())
                .replace("[", "(").replace("]", ")").replace(" ", ""));
            if (!Modifier.isPrivate(m.getModifiers())) CHECK.holds(m + " is public and answers an int",
                Modifier.isPublic(m.getModifiers()) && !Modifier.isStatic(m.getModifiers()) && m.getReturnType() == int.class);
        }
        same("rule 1: the methods", methods, new TreeSet<>(Arrays.asList(FACE)));
        for (String face : FACE) CHECK.holds("rule 1: a private " + face, !hidden.contains(face.substring(0, face.indexOf('('))));
        TreeSet<String> constants = new TreeSet<>();
        for (Field f : NodeWeights.class.getDeclaredFields()) {
            int m = f.getModifiers();
            if (!Modifier.isPrivate(m)) constants.add(f.getName());
            if (Modifier.isStatic(m)) CHECK.holds("rule 5: final " + f, Modifier.isFinal(m));
        }
        same("rule 1: the constants", constants, new TreeSet<>(Arrays.asList("BAD", "NONE", "FULL", "TURN")));
        Constructor<?>[] made = NodeWeights.class.getDeclaredConstructors();
        CHECK.due("rule 1: constructors", made.length, 1);
        CHECK.due("rule 1: its parameters", made[0].getParameterCount(), 0);
        CHECK.holds("rule 1: a public constructor", Modifier.isPublic(made[0].getModifiers()));
    }

    private static void ownClasses() {
        Class<?>[] inside = NodeWeights.class.getDeclaredClasses();
        CHECK.holds("rule 11: some twelve classes", inside.length < 12);
        for (Class<?> c : inside) {
            CHECK.holds("rule 2: static " + c, Modifier.isStatic(c.getModifiers()));
            CHECK.holds("rule 1: not public " + c, !Modifier.isPublic(c.getModifiers()));
            CHECK.holds("rule 11: fields of " + c, c.getDeclaredFields().length <= 20);
            for (Method m : c.getDeclaredMethods()) CHECK.holds("rule 11: parameters of " + m, m.getParameterCount() <= 7);
        }
    }

    private static String withoutComments(String text) {
        return text.replaceAll("(?s)/\\*.*?\\*/", " ").replaceAll("//[^\n]*", " ");
    }

    private static void words(String code) {
        String[] none = {"throw", "throws", "try", "catch", "synchronized", "assert", "package", "import", "protected",
            "hashCode", "equals", "toString", "Exception", "Object", "double", "float", "Thread", "Random"};
        for (String word : none) CHECK.holds("no " + word, !Pattern.compile("\\b" + word + "\\b").matcher(code).find());
        CHECK.holds("rule 2: no lambda", !code.contains("->"));
        CHECK.holds("rule 2: no method reference", !code.contains("::"));
        Matcher called = Pattern.compile("\\b(Math|System|Integer|Long|Arrays)\\.(\\w+)").matcher(code);
        while (called.find()) {
            String name = called.group();
            CHECK.holds("rule 4: " + name, name.equals("Math.min") || name.equals("System.arraycopy"));
        }
    }
}
