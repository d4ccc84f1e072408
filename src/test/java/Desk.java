/** A WordForge that takes texts as Strings, and counts the answers that are not the ones due. */
final class Desk {
    static final long NONE = 4294967296L;

    private static int checks = 0;
    private static int wrong = 0;

    final WordForge forge = new WordForge();

    /** Feeds the whole text, four characters a call. */
    Desk feed(String text) {
        for (int p = 0; p < text.length(); p += 4) {
            String part = text.substring(p, Math.min(p + 4, text.length()));
            due("feed of '" + part + "'", forge.feed(packed(part)), part.length());
        }
        return this;
    }

    static int packed(String upToFour) {
        int w = 0;
        for (int k = 0; k < upToFour.length(); k++) {
            w |= upToFour.charAt(k) << 8 * k;
        }
        return w;
    }

    int load(String text) {
        forge.clear();
        feed(text);
        return forge.load();
    }

    /** Loads the text, which meets no fault and leaves these values, the top last. */
    Desk leaves(String text, long... values) {
        due("load of '" + text + "'", load(text), 0);
        due("faultAt of '" + text + "'", forge.faultAt(), -1);
        holds(text, values);
        return this;
    }

    void holds(String text, long... values) {
        due("depth behind '" + text + "'", forge.depth(), values.length);
        for (int k = 0; k < values.length; k++) {
            due("value(" + k + ") behind '" + text + "'", forge.value(k), values[values.length - 1 - k]);
        }
    }

    /** Loads the text, which meets this fault at this word and leaves an empty stack. */
    Desk meets(String text, int fault, int place) {
        due("load of '" + text + "'", load(text), fault);
        due("faultAt of '" + text + "'", forge.faultAt(), place);
        due("depth behind '" + text + "'", forge.depth(), 0);
        return this;
    }

    Desk meets(String text, int fault, int place, int steps) {
        meets(text, fault, place);
        due("steps of '" + text + "'", forge.steps(), steps);
        return this;
    }

    Desk makes(String text, int steps) {
        due("load of '" + text + "'", load(text), 0);
        due("steps of '" + text + "'", forge.steps(), steps);
        return this;
    }

    static void due(String what, long got, long want) {
        checks++;
        if (got != want) {
            wrong++;
            System.out.println(what + " answered " + got + ", due is " + want);
        }
    }

    static void due(String what, boolean got, boolean want) {
        due(what, got ? 1 : 0, want ? 1 : 0);
    }

    /** The same word n times, with a blank behind each. */
    static String times(int n, String word) {
        return (word + " ").repeat(n);
    }

    static void end() {
        System.out.println(checks + " answers, " + wrong + " not as due");
        if (wrong != 0) {
            System.exit(1);
        }
    }
}
