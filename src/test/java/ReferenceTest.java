import java.util.ArrayList;
import java.util.List;
import java.util.Random;

/** Compares the class with Reference over many made-up runs of calls, the same ones each time. */
public final class ReferenceTest {
    private static final int RUNS = 6000;
    /** The calls for which an object is used, those that compareAll makes, and those beside the feeds of a text. */
    private static final int CALLS = 512;
    private static final int LAST_CALLS = 7 + 35 + 4 * 23;
    private static final int TEXT_CALLS = 1 + 11 + 1 + 3 * 8;
    private static final String[] PLAIN =
        ("dup drop swap over rot nip tuck ?dup depth + - * / mod negate abs min max and or xor invert lshift rshift "
            + "= < > 0= 0< @ ! +! .").split(" ");
    private static final String[] CONTROL =
        "if else then begin until again while repeat do loop i exit recurse : ; forget".split(" ");
    private static final String[] NAMES = "a b c sq fac name6b ~ a1 -x".split(" ");
    private static final String[] ODD = "zz toolong 1234567890 -1234567890 -- 123456789 -0 IF 0x : ;".split(" ");

    private static final int[] faults = new int[10];

    private final Random random;
    private final WordForge forge = new WordForge();
    private final Reference reference = new Reference();
    private final int run;
    /** The names that are defined, and those that the text being made defines. */
    private final List<String> defined = new ArrayList<>();
    private String latest = "";
    private int calls;

    private ReferenceTest(int run) {
        this.run = run;
        random = new Random(run);
    }

    public static void main(String[] args) {
        int runs = args.length > 0 ? Integer.parseInt(args[0]) : RUNS;
        for (int run = 0; run < runs; run++) {
            new ReferenceTest(run).play();
        }
        for (int fault = 0; fault < faults.length; fault++) {
            Desk.due("fault " + fault + " was met", faults[fault] > 0, true);
        }
        Desk.end();
    }

    private void play() {
        boolean room = true;
        for (int n = 1 + random.nextInt(8); n > 0 && room; n--) {
            room = playText();
        }
        compareAll();
    }

    /** Feeds and loads one more text, unless the object has no calls left for it; what these would answer is free. */
    private boolean playText() {
        defined.clear();
        defined.addAll(reference.names());
        String text = random.nextInt(6) == 0 ? anyWords() : shapedText();
        List<String> parts = parts(text);
        if (calls + parts.size() + TEXT_CALLS + LAST_CALLS > CALLS) {
            return false;
        }
        if (random.nextInt(4) > 0) {
            forge.clear();
            calls++;
            reference.clear();
            latest = "";
        }
        for (int k = random.nextInt(12); k > 0; k--) {
            int v = random.nextInt(8) == 0 ? random.nextInt() : random.nextInt(6) - 1;
            same("push", forge.push(v) ? 1 : 0, reference.push(v) ? 1 : 0);
        }
        if (random.nextInt(10) == 0) {
            feedInt(random.nextInt());
        }
        latest += text;
        for (String part : parts) {
            feedInt(Desk.packed(part));
        }
        for (int k = random.nextInt(8) == 0 ? 3 : 1; k > 0; k--) {
            int fault = reference.load();
            faults[fault]++;
            same("load", forge.load(), fault);
            compareBriefly();
        }
        return true;
    }

    private void same(String what, long got, long want) {
        calls++;
        Desk.due("run " + run + " '" + latest + "' " + what, got, want);
    }

    private void feedInt(int w) {
        same("feed(" + w + ")", forge.feed(w), reference.feed(w));
    }

    private List<String> parts(String text) {
        List<String> parts = new ArrayList<>();
        for (int p = 0; p < text.length(); ) {
            int n = random.nextInt(4) > 0 ? 4 : 1 + random.nextInt(3);
            String part = text.substring(p, Math.min(p + n, text.length()));
            parts.add(part);
            p += part.length();
        }
        return parts;
    }

    private String one(String[] words) {
        return words[random.nextInt(words.length)];
    }

    private String name() {
        boolean known = !defined.isEmpty() && random.nextInt(15) > 0;
        return known ? defined.get(random.nextInt(defined.size())) : one(NAMES);
    }

    private String anyWords() {
        StringBuilder text = new StringBuilder();
        for (int n = random.nextInt(40); n > 0; n--) {
            int kind = random.nextInt(12);
            String rare = kind < 9 ? one(CONTROL) : kind < 11 ? one(NAMES) : one(ODD);
            text.append(kind < 4 ? number() : kind < 8 ? one(PLAIN) : rare);
            text.append(random.nextInt(6) == 0 ? "   " : " ");
        }
        return text.toString();
    }

    private String number() {
        int kind = random.nextInt(10);
        return Integer.toString(kind < 7 ? random.nextInt(5) : kind < 9 ? random.nextInt(40) - 20 : random.nextInt(999999999));
    }

    /** Definitions that are mostly balanced, and words that run them. */
    private String shapedText() {
        StringBuilder text = new StringBuilder();
        int parts = 1 + random.nextInt(5);
        for (int n = 0; n < parts && text.length() < 250; n++) {
            int kind = random.nextInt(10);
            if (kind < 5) {
                String made = one(NAMES);
                text.append(": ").append(made).append(' ');
                sequence(text, 0, false, 1 + random.nextInt(5));
                if (random.nextInt(20) == 0) {
                    text.append(one(CONTROL)).append(' ');
                }
                text.append("; ");
                defined.add(made);
            } else if (kind < 6 && random.nextInt(3) == 0) {
                text.append("forget ").append(name()).append(' ');
            } else {
                for (int k = random.nextInt(5); k > 0; k--) {
                    text.append(random.nextInt(3) == 0 ? one(PLAIN) : number()).append(' ');
                }
                text.append(name()).append(' ');
            }
        }
        return text.toString();
    }

    private void sequence(StringBuilder text, int depth, boolean inLoop, int length) {
        for (int n = 0; n < length && text.length() < 270; n++) {
            int kind = random.nextInt(20);
            if (kind < 5) {
                text.append(number()).append(' ');
            } else if (kind < 9) {
                text.append(one(PLAIN)).append(' ');
            } else if (kind < 12) {
                text.append(defined.isEmpty() ? "depth" : name()).append(' ');
            } else if (kind < 13) {
                text.append(random.nextInt(3) == 0 ? "exit " : "recurse ");
            } else if (kind < 15) {
                text.append(inLoop || random.nextInt(20) == 0 ? "i " : "drop ");
            } else {
                structure(text, depth, inLoop);
            }
        }
    }

    private void structure(StringBuilder text, int depth, boolean inLoop) {
        int kind = random.nextInt(7);
        int length = random.nextInt(depth > 9 ? 1 : 4);
        boolean loop = kind >= 5;
        if (loop && random.nextInt(3) > 0) {
            text.append(random.nextInt(6)).append(" 0 ");
        }
        if (kind < 2 && random.nextBoolean()) {
            text.append("depth 3 mod ");
        }
        text.append(kind < 2 ? "if " : loop ? "do " : "begin ");
        sequence(text, depth + 1, inLoop || loop, length);
        if (kind == 1) {
            text.append("else ");
            sequence(text, depth + 1, inLoop, length);
        } else if (kind == 2) {
            text.append(random.nextBoolean() ? "depth 5 mod while " : "while ");
            sequence(text, depth + 1, inLoop, length);
        }
        if (kind == 3 && random.nextBoolean()) {
            text.append("depth 4 mod ");
        }
        String[] closing = {"then ", "then ", "repeat ", "until ", "again ", "loop ", "loop "};
        text.append(closing[kind]);
    }

    private void compareBriefly() {
        same("faultAt", forge.faultAt(), reference.faultAt());
        same("steps", forge.steps(), reference.steps());
        same("depth", forge.depth(), reference.depth());
        same("puts", forge.puts(), reference.puts());
        same("definitions", forge.definitions(), reference.definitions());
        same("value(0)", forge.value(0), reference.value(0));
        same("output(0)", forge.output(0), reference.output(0));
    }

    private void compareAll() {
        compareBriefly();
        for (int k = -1; k <= 33; k++) {
            same("value(" + k + ")", forge.value(k), reference.value(k));
        }
        for (int k = -1; k <= 21; k++) {
            same("cell(" + k + ")", forge.cell(k), reference.cell(k));
            same("output(" + k + ")", forge.output(k), reference.output(k));
            same("body(" + k + ")", forge.body(k), reference.body(k));
            same("name(" + k + ")", forge.name(k), reference.name(k));
        }
        Desk.due("calls of run " + run, calls <= CALLS, true);
    }
}
