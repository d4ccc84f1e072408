/** Promises 5 (faultAt) and 7 to 15: what the object answers of its state, at both ends of every row. */
public final class AnswersTest {
    private static final int MIN = Integer.MIN_VALUE;
    private static final int MAX = Integer.MAX_VALUE;
    private static final int[] FAR = {-1, -2, -16, -32, MIN, MIN + 1, MAX, MAX - 1, 1 << 16, -65536, 256};

    public static void main(String[] args) {
        faultAtWithoutALoading();
        faultAtWithoutAFault();
        faultAtOfWords();
        faultAtInBodies();
        faultAtBehindTheLastWord();
        faultAtOfTheLatestLoading();
        depthFromNoneToAll();
        valuesFromTheTop();
        valuesThatAreNotThere();
        pushUpToThirtyTwo();
        pushOnAFullStack();
        pushedValuesAreUsed();
        cellsAtFirst();
        cellsByNumber();
        cellsThatAreNotThere();
        putsSinceTheBeginning();
        outputFromTheLatest();
        outputThatIsNotThere();
        definitionsFromNoneToAll();
        bodiesByNumber();
        bodiesThatAreNotThere();
        namesByNumber();
        namesThatAreNotThere();
        fiveHundredAndTwelveCalls();
        Desk.end();
    }

    private static void faultAtWithoutALoading() {
        Desk.sentence("-1 if there was no fault or no loading.");
        Desk d = new Desk();
        Desk.due("faultAt", d.forge.faultAt(), -1);
        d.feed("zz").holding(1);
        Desk.due("a wrong feed", d.forge.feed(1), -1);
        Desk.due("faultAt before load", d.forge.faultAt(), -1);
    }

    private static void faultAtWithoutAFault() {
        Desk.sentence("-1 if there was no fault or no loading.");
        new Desk().leaves("").leaves("1", 1).meets("zz", 1, 0).leaves("").meets("1 zz", 1, 1).leaves("2", 2);
    }

    private static void faultAtOfWords() {
        Desk.sentence("The number (0 the first) of the word of the text at which the latest loading met its fault");
        new Desk().meets("zz", 1, 0, 0).meets("   zz", 1, 0, 0).meets("1 2 zz 3", 1, 2, 2).meets("+", 3, 0, 0);
        new Desk().meets(Desk.times(148, ".") + "x", 3, 0);
        new Desk().holdingTimes(32, 1).meets(Desk.times(32, ".") + "x", 1, 32, 32);
    }

    private static void faultAtInBodies() {
        Desk.sentence("of a fault in a body, of the word outside definitions that was being done");
        new Desk().meets(": a 1 0 / ; : b 5 a ; 7 b 8", 5, 12, 1 + 1 + 1 + 1 + 2);
        new Desk().meets(": a drop drop ; 1 a", 3, 6, 3);
        new Desk().meets(": a 99 @ ; a", 6, 5, 2);
        new Desk().meets(": a begin 1 again ; a", 4, 6, 1 + 2 * 32);
        new Desk().leaves(": a drop ; : b a ; : c b ;").meets("c", 3, 0, 3).meets("1 c 2 3 c c c 4", 3, 6);
        new Desk().leaves(": r recurse ;").meets("1 2 r 3", 7, 2).leaves(": w begin again ;").meets("1 w", 8, 1);
    }

    private static void faultAtBehindTheLastWord() {
        Desk.sentence("behind the last word the number of words");
        new Desk().meets(":", 1, 1).meets("forget", 1, 1).meets("  : a  ", 1, 2).meets(": a 1 2 3", 1, 5);
        new Desk().meets(": a " + Desk.times(148, "1"), 1, 150).meets("1 2 3 forget", 1, 4);
    }

    private static void faultAtOfTheLatestLoading() {
        Desk.sentence("at which the latest loading met its fault");
        Desk d = new Desk().meets("1 2 zz 3", 1, 2, 2).meets("1 +", 3, 1, 1);
        d.holding(4).forge.clear();
        Desk.due("faultAt behind push and clear", d.forge.faultAt(), 1);
        d.feed("1");
        Desk.due("faultAt behind feed", d.forge.faultAt(), 1);
        Desk.due("load", d.forge.load(), 0);
        Desk.due("faultAt", d.forge.faultAt(), -1);
    }

    private static void depthFromNoneToAll() {
        Desk.sentence("How many ints the stack has.");
        Desk d = new Desk();
        for (int n = 0; n < 32; n++) {
            Desk.due("depth", d.forge.depth(), n);
            Desk.due("load", d.load("7"), 0);
        }
        Desk.due("depth", d.forge.depth(), 32);
        for (int n = 31; n >= 0; n--) {
            Desk.due("load", d.load("drop"), 0);
            Desk.due("depth", d.forge.depth(), n);
        }
    }

    private static void valuesFromTheTop() {
        Desk.sentence("Value k of the stack, the top 0");
        WordForge x = new WordForge();
        for (int n = 0; n < 32; n++) {
            x.push(100 + n);
            Desk.due("the top", x.value(0), 100 + n);
            Desk.due("the lowest", x.value(n), 100);
        }
        for (int k = 0; k < 32; k++) {
            Desk.due("value(" + k + ")", x.value(k), 131 - k);
        }
        new Desk().holding(MIN, MAX, -1, 0).holds("push", MIN, MAX, -1, 0);
    }

    private static void valuesThatAreNotThere() {
        Desk.sentence("4294967296 if there is none.");
        Desk d = new Desk();
        for (int n = 0; n <= 32; n++) {
            Desk.due("value(" + n + ") of " + n, d.forge.value(n), Desk.NONE);
            Desk.due("value(-1) of " + n, d.forge.value(-1), Desk.NONE);
            Desk.due("push", d.forge.push(7), n < 32);
        }
        Desk.due("value(31)", d.forge.value(31), 7);
        for (int k : FAR) {
            Desk.due("value(" + k + ")", d.forge.value(k), Desk.NONE);
        }
        // What was taken is not there any more.
        Desk taken = new Desk().leaves("1 2 3 drop drop", 1);
        Desk.due("value(1)", taken.forge.value(1), Desk.NONE);
        Desk.due("value(2)", taken.forge.value(2), Desk.NONE);
    }

    private static void pushUpToThirtyTwo() {
        Desk.sentence("Pushes v; false if the stack has 32.");
        WordForge x = new WordForge();
        int[] values = {0, 1, -1, MIN, MAX};
        for (int n = 0; n < 32; n++) {
            int v = values[n % values.length];
            Desk.due("push", x.push(v), true);
            Desk.due("value(0)", x.value(0), v);
            Desk.due("depth", x.depth(), n + 1);
        }
    }

    private static void pushOnAFullStack() {
        Desk.sentence("Pushes v; false if the stack has 32.");
        Desk d = new Desk().holdingTimes(31, 5).holding(6);
        for (int n = 0; n < 3; n++) {
            Desk.due("push on full", d.forge.push(7), false);
            Desk.due("depth", d.forge.depth(), 32);
            Desk.due("value(0)", d.forge.value(0), 6);
            Desk.due("value(31)", d.forge.value(31), 5);
        }
        Desk.due("load", d.load("drop"), 0);
        Desk.due("push", d.forge.push(8), true);
        Desk.due("push on full", d.forge.push(9), false);
        Desk.due("value(0)", d.forge.value(0), 8);
    }

    private static void pushedValuesAreUsed() {
        Desk.sentence("Pushes v; false if the stack has 32.");
        Desk d = new Desk().holding(6, 7).leaves("*", 42).holding(1);
        d.holds("push", 42, 1);
        d.meets("zz", 1, 0).holding(3).leaves("dup", 3, 3);
    }

    private static void cellsAtFirst() {
        Desk.sentence("MEMORY has cells 0 .. 15, all 0 at first");
        Desk d = new Desk();
        for (int k = 0; k < 16; k++) {
            Desk.due("cell(" + k + ")", d.forge.cell(k), 0);
            d.leaves(k + " @ drop");
        }
    }

    private static void cellsByNumber() {
        Desk.sentence("A cell; 4294967296 if there is none.");
        Desk d = new Desk();
        for (int k = 0; k < 16; k++) {
            d.leaves(-k - 1 + " " + k + " !");
        }
        for (int k = 0; k < 16; k++) {
            Desk.due("cell(" + k + ")", d.forge.cell(k), -k - 1);
        }
        d.holding(MIN, 0, MAX, 15).leaves("! !");
        Desk.due("cell(0)", d.forge.cell(0), MIN);
        Desk.due("cell(15)", d.forge.cell(15), MAX);
        d.meets("zz", 1, 0).forge.clear();
        Desk.due("cell(0) stays", d.forge.cell(0), MIN);
    }

    private static void cellsThatAreNotThere() {
        Desk.sentence("A cell; 4294967296 if there is none.");
        Desk d = new Desk();
        for (int k : new int[] {16, 17, 31, 32}) {
            Desk.due("cell(" + k + ")", d.forge.cell(k), Desk.NONE);
        }
        for (int k : FAR) {
            Desk.due("cell(" + k + ")", d.forge.cell(k), Desk.NONE);
        }
    }

    private static void putsSinceTheBeginning() {
        Desk.sentence("How many ints were put out since the beginning.");
        Desk d = new Desk().leaves("1 . 2 .");
        Desk.due("puts", d.forge.puts(), 2);
        d.leaves(": a 300 0 do i . loop ; a");
        Desk.due("puts", d.forge.puts(), 302);
        d.meets("5 . .", 3, 2).leaves("forget a").forge.clear();
        Desk.due("puts", d.forge.puts(), 303);
        d.leaves("6 .").leaves("");
        Desk.due("puts", d.forge.puts(), 304);
    }

    private static void outputFromTheLatest() {
        Desk.sentence("What was put out k-th counted from the latest (0)");
        for (int n : new int[] {1, 2, 15, 16, 17, 18, 31, 32, 33, 40}) {
            Desk d = new Desk().leaves(": a 0 do i 3 * 50 - . loop ; " + n + " a");
            for (int k = 0; k < 16 && k < n; k++) {
                Desk.due("output(" + k + ") of " + n, d.forge.output(k), (n - 1 - k) * 3 - 50);
            }
            d.meets("drop", 3, 0);
            Desk.due("output(0) stays", d.forge.output(0), (n - 1) * 3 - 50);
        }
        Desk texts = new Desk();
        for (int n = 0; n < 20; n++) {
            texts.leaves(n + " .");
            Desk.due("output(0)", texts.forge.output(0), n);
        }
        Desk.due("output(15)", texts.forge.output(15), 4);
    }

    private static void outputThatIsNotThere() {
        Desk.sentence("4294967296 if k is not 0 .. 15 or there were not so many.");
        for (int n = 0; n <= 20; n++) {
            Desk d = new Desk().leaves(Desk.times(n, "7 ."));
            for (int k = 0; k <= 20; k++) {
                Desk.due("output(" + k + ") of " + n, d.forge.output(k), k < n && k < 16 ? 7 : Desk.NONE);
            }
            for (int k : FAR) {
                Desk.due("output(" + k + ") of " + n, d.forge.output(k), Desk.NONE);
            }
        }
    }

    private static void definitionsFromNoneToAll() {
        Desk.sentence("How many definitions there are.");
        Desk d = new Desk();
        for (int n = 0; n < 20; n++) {
            d.defines(n).leaves(": n" + n + " ;");
        }
        d.defines(20).meets(": more ;", 9, 2).defines(20);
        for (int n = 19; n >= 0; n--) {
            d.leaves("forget n" + n).defines(n);
        }
    }

    private static void bodiesByNumber() {
        Desk.sentence("How many words the body of definition k (0 the earliest) has");
        Desk d = new Desk().leaves(": a ; : b 1 ; : c if else then ; : d begin 1 while repeat ; : a 1 2 + ;");
        int[] lengths = {0, 1, 3, 4, 3};
        for (int k = 0; k < lengths.length; k++) {
            Desk.due("body(" + k + ")", d.forge.body(k), lengths[k]);
        }
        Desk e = new Desk().leaves(": a " + Desk.times(147, "1") + ";").leaves(": b " + Desk.times(53, "1") + ";");
        Desk.due("body(0)", e.forge.body(0), 147);
        Desk.due("body(1)", e.forge.body(1), 53);
        Desk all = new Desk().leaves(Desk.times(19, ": a ;")).leaves(": b 1 2 ;");
        Desk.due("body(18)", all.forge.body(18), 0);
        Desk.due("body(19)", all.forge.body(19), 2);
    }

    private static void bodiesThatAreNotThere() {
        Desk.sentence("-1 if there is none.");
        Desk d = new Desk();
        for (int n = 0; n <= 20; n++) {
            Desk.due("body(" + n + ") of " + n, d.forge.body(n), -1);
            Desk.due("body(" + (n - 1) + ") of " + n, d.forge.body(n - 1), n == 0 ? -1 : 1);
            Desk.due("load", d.load(": a 1 ;"), n < 20 ? 0 : 9);
        }
        for (int k : FAR) {
            Desk.due("body(" + k + ")", d.forge.body(k), -1);
        }
        Desk.due("body(21)", d.forge.body(21), -1);
        d.leaves("forget a");
        Desk.due("body(19) forgotten", d.forge.body(19), -1);
    }

    private static void namesByNumber() {
        Desk.sentence("the first one times 128, plus the second, that times 128, and so on");
        Desk d = new Desk().leaves(": a ; : ab 1 ; : abcdef 2 ; : ~~~~~~ 3 ; : !! ; : a 7 ;");
        Desk.due("a", d.forge.name(0), 97);
        Desk.due("ab", d.forge.name(1), 97 * 128 + 98);
        Desk.due("abcdef", d.forge.name(2), number("abcdef"));
        Desk.due("~~~~~~", d.forge.name(3), number("~~~~~~"));
        Desk.due("!!", d.forge.name(4), 33 * 128 + 33);
        Desk.due("a again", d.forge.name(5), 97);
        for (int n = 1; n <= 6; n++) {
            Desk e = new Desk().leaves(": " + "zyxwvu".substring(0, n) + " ;");
            Desk.due("name of " + n, e.forge.name(0), number("zyxwvu".substring(0, n)));
        }
    }

    private static long number(String name) {
        long n = 0;
        for (char c : name.toCharArray()) {
            n = n * 128 + c;
        }
        return n;
    }

    private static void namesThatAreNotThere() {
        Desk.sentence("-1 if there is none.");
        Desk d = new Desk();
        for (int n = 0; n <= 20; n++) {
            Desk.due("name(" + n + ") of " + n, d.forge.name(n), -1);
            Desk.due("name(" + (n - 1) + ") of " + n, d.forge.name(n - 1), n == 0 ? -1 : 'a');
            Desk.due("load", d.load(": a 1 ;"), n < 20 ? 0 : 9);
        }
        for (int k : FAR) {
            Desk.due("name(" + k + ")", d.forge.name(k), -1);
        }
        Desk.due("name(21)", d.forge.name(21), -1);
        d.leaves("forget a");
        Desk.due("name(19) forgotten", d.forge.name(19), -1);
    }

    private static void fiveHundredAndTwelveCalls() {
        Desk.sentence("An object is used for at most 512 calls after it has been made");
        WordForge x = new WordForge();
        Desk.due("feed", x.feed(Desk.packed("7 .")), 3);
        for (int n = 1; n <= 255; n++) {
            Desk.due("load " + n, x.load(), 0);
            Desk.due("puts", x.puts(), n);
        }
        Desk.due("the 512th call", x.output(15), 7);
    }
}
