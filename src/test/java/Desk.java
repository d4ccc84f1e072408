/** A WordForge that takes texts as Strings, and counts the answers that are not the ones due. */
final class Desk {
    static final long NONE = 4294967296L;

    private static String sentence = "";
    private static int sentences = 0;
    private static int checks = 0;
    private static int wrong = 0;

    final WordForge forge = new WordForge();

    /** From here on this sentence of the document is tested; a wrong answer is told with it. */
    static void sentence(String words) {
        sentence = words;
        sentences++;
    }

    /** Feeds the whole text, four characters a call. */
    Desk feed(String text) {
        for (int p = 0; p < text.length(); p += 4) {
            String part = text.substring(p, Math.min(p + 4, text.length()));
            due("feed of '" + part + "'", forge.feed(packed(part)), part.length());
        }
        return this;
    }

    static int packed(String upToFour) {
        int w = 0;
        for (int k = 0; k < upToFour.length(); k++) {
            w |= upToFour.charAt(k) << 8 * k;
        }
        return w;
    }

    /** Pushes these values, the top last. */
    Desk holding(int... values) {
        for (int v : values) {
            due("push(" + v + ")", forge.push(v), true);
        }
        return this;
    }

    /** Pushes the value n times. */
    Desk holdingTimes(int n, int v) {
        for (int k = 0; k < n; k++) {
            due("push(" + v + ")", forge.push(v), true);
        }
        return this;
    }

    int load(String text) {
        forge.clear();
        feed(text);
        return forge.load();
    }

    /** Loads the text, which meets no fault and leaves these values, the top last. */
    Desk leaves(String text, long... values) {
        due("load of '" + text + "'", load(text), 0);
        due("faultAt of '" + text + "'", forge.faultAt(), -1);
        holds(text, values);
        return this;
    }

    void holds(String text, long... values) {
        due("depth behind '" + text + "'", forge.depth(), values.length);
        for (int k = 0; k < values.length; k++) {
            due("value(" + k + ") behind '" + text + "'", forge.value(k), values[values.length - 1 - k]);
        }
    }

    /** Loads the text, which meets this fault at this word and leaves an empty stack. */
    Desk meets(String text, int fault, int place) {
        due("load of '" + text + "'", load(text), fault);
        due("faultAt of '" + text + "'", forge.faultAt(), place);
        due("depth behind '" + text + "'", forge.depth(), 0);
        return this;
    }

    Desk meets(String text, int fault, int place, int steps) {
        meets(text, fault, place);
        due("steps of '" + text + "'", forge.steps(), steps);
        return this;
    }

    /** Loads the text, which meets this fault at its last word. */
    Desk meetsAtLast(String text, int fault) {
        return meets(text, fault, words(text) - 1);
    }

    Desk makes(String text, int steps) {
        due("load of '" + text + "'", load(text), 0);
        due("steps of '" + text + "'", forge.steps(), steps);
        return this;
    }

    Desk defines(int definitions) {
        due("definitions", forge.definitions(), definitions);
        return this;
    }

    static void due(String what, long got, long want) {
        checks++;
        if (got != want) {
            wrong++;
            System.out.println("\"" + sentence + "\" " + what + " answered " + got + ", due is " + want);
        }
    }

    static void due(String what, boolean got, boolean want) {
        due(what, got ? 1 : 0, want ? 1 : 0);
    }

    /** The same word n times, with a blank behind each. */
    static String times(int n, String word) {
        return (word + " ").repeat(n);
    }

    static int words(String text) {
        return text.trim().split(" +").length;
    }

    static void end() {
        System.out.println(sentences + " tests of sentences, " + checks + " answers, " + wrong + " not as due");
        if (wrong != 0) {
            System.exit(1);
        }
    }
}
