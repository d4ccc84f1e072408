/** The plain words of promise 4: what each takes and pushes, at the edges of ints, of the stack and of memory. */
public final class PlainWordsTest {
    private static final int MIN = Integer.MIN_VALUE;
    private static final int MAX = Integer.MAX_VALUE;
    private static final String[] NONE_TAKEN = {"depth"};
    private static final String[] ONE_TAKEN = {"dup", "drop", "?dup", "negate", "abs", "invert", "0=", "0<", "@", "."};
    private static final String[] TWO_TAKEN = {"swap", "over", "nip", "tuck", "+", "-", "*", "/", "mod", "min", "max", "and",
        "or", "xor", "lshift", "rshift", "=", "<", ">", "!", "+!"};

    public static void main(String[] args) {
        stackWords();
        dupUnlessZero();
        depthOfEmptyAndFull();
        sumsWrap();
        productsWrap();
        quotientsAreRoundedDown();
        quotientWraps();
        remainders();
        negateAndAbsWrap();
        leastAndGreatest();
        bits();
        shiftsByFiveBits();
        comparisons();
        comparisonsWithZero();
        cellsAreReadAndWritten();
        addingToACellWraps();
        puttingOut();
        valuesThatAreNotThere();
        wordsThatNeedRoom();
        wordsThatNeedNoRoom();
        zeroDivisors();
        cellsThatAreNotThere();
        Desk.end();
    }

    /** A 9 below the values shows that the word takes no more than them. */
    private static void pair(String word, int a, int b, long result) {
        new Desk().holding(9, a, b).leaves(word, 9, result);
    }

    private static void one(String word, int a, long result) {
        new Desk().holding(9, a).leaves(word, 9, result);
    }

    private static void stackWords() {
        Desk.sentence("dup (a: a a) drop (a: ) swap (a b: b a) over (a b: a b a) rot (a b c: b c a) nip (a b: b) tuck (a b: b a b)");
        new Desk().leaves("1 2 dup", 1, 2, 2);
        new Desk().leaves("1 2 drop", 1).leaves("drop");
        new Desk().leaves("1 2 3 swap", 1, 3, 2);
        new Desk().leaves("1 2 3 over", 1, 2, 3, 2);
        new Desk().leaves("9 1 2 3 rot", 9, 2, 3, 1);
        new Desk().leaves("1 2 3 nip", 1, 3);
        new Desk().leaves("1 2 3 tuck", 1, 3, 2, 3);
        new Desk().leaves("5 dup", 5, 5);
        new Desk().leaves("5 6 over", 5, 6, 5);
        new Desk().leaves("5 6 tuck", 6, 5, 6);
    }

    private static void dupUnlessZero() {
        Desk.sentence("?dup (a: a a, or a if it is 0)");
        one("?dup", 0, 0);
        for (int a : new int[] {1, -1, MIN, MAX, 256, 65536}) {
            new Desk().holding(9, a).leaves("?dup", 9, a, a);
        }
    }

    private static void depthOfEmptyAndFull() {
        Desk.sentence("depth ( : how many there were)");
        new Desk().leaves("depth", 0).leaves("depth", 0, 1).leaves("depth", 0, 1, 2);
        Desk d = new Desk().holdingTimes(31, 7);
        Desk.due("load", d.load("depth"), 0);
        Desk.due("value(0)", d.forge.value(0), 31);
        Desk.due("depth", d.forge.depth(), 32);
        d.meets("depth", 4, 0, 0);
    }

    private static void sumsWrap() {
        Desk.sentence("+ - * (a b: a + b, a - b, a * b, 32 bits, wrapping)");
        pair("+", 7, 3, 10);
        pair("+", MAX, 1, MIN);
        pair("+", MIN, -1, MAX);
        pair("+", MIN, MIN, 0);
        pair("+", MAX, MAX, -2);
        pair("-", 7, 3, 4);
        pair("-", 3, 7, -4);
        pair("-", MIN, 1, MAX);
        pair("-", MAX, -1, MIN);
        pair("-", 0, MIN, MIN);
        pair("-", -1, MIN, MAX);
    }

    private static void productsWrap() {
        Desk.sentence("+ - * (a b: a + b, a - b, a * b, 32 bits, wrapping)");
        pair("*", 7, -3, -21);
        pair("*", -7, -3, 21);
        pair("*", 46341, 46341, -2147479015);
        pair("*", 65536, 65536, 0);
        pair("*", 65536, 32768, MIN);
        pair("*", MIN, -1, MIN);
        pair("*", MAX, MAX, 1);
        pair("*", MAX, 2, -2);
        pair("*", MIN, 0, 0);
    }

    private static void quotientsAreRoundedDown() {
        Desk.sentence("/ (a b: a / b rounded down, wrapping)");
        pair("/", 7, 2, 3);
        pair("/", -7, 2, -4);
        pair("/", 7, -2, -4);
        pair("/", -7, -2, 3);
        pair("/", 6, 3, 2);
        pair("/", -6, 3, -2);
        pair("/", 6, -3, -2);
        pair("/", -6, -3, 2);
        pair("/", 0, 5, 0);
        pair("/", 0, -5, 0);
        pair("/", 1, 9, 0);
        pair("/", -1, 9, -1);
        pair("/", 1, -9, -1);
        pair("/", -1, -9, 0);
        pair("/", MIN, MAX, -2);
        pair("/", MAX, MIN, -1);
        pair("/", MIN, 3, -715827883);
        pair("/", MIN, MIN, 1);
        pair("/", 1, MIN, -1);
    }

    private static void quotientWraps() {
        Desk.sentence("/ (a b: a / b rounded down, wrapping)");
        pair("/", MIN, -1, MIN);
        pair("/", MAX, -1, -MAX);
        pair("/", MIN, 1, MIN);
    }

    private static void remainders() {
        Desk.sentence("mod (a b: a - b * that)");
        pair("mod", 7, 2, 1);
        pair("mod", -7, 2, 1);
        pair("mod", 7, -2, -1);
        pair("mod", -7, -2, -1);
        pair("mod", 6, 3, 0);
        pair("mod", -6, 3, 0);
        pair("mod", 1, 9, 1);
        pair("mod", -1, 9, 8);
        pair("mod", 1, -9, -8);
        pair("mod", -1, -9, -1);
        pair("mod", MIN, -1, 0);
        pair("mod", MIN, 3, 1);
        pair("mod", MIN, MAX, MAX - 1);
        pair("mod", MAX, MIN, -1);
        pair("mod", 0, -5, 0);
    }

    private static void negateAndAbsWrap() {
        Desk.sentence("negate abs (a: wrapping)");
        one("negate", 5, -5);
        one("negate", -5, 5);
        one("negate", 0, 0);
        one("negate", MAX, -MAX);
        one("negate", MIN, MIN);
        one("abs", 5, 5);
        one("abs", -5, 5);
        one("abs", 0, 0);
        one("abs", -1, 1);
        one("abs", MAX, MAX);
        one("abs", -MAX, MAX);
        one("abs", MIN, MIN);
    }

    private static void leastAndGreatest() {
        Desk.sentence("min max and or xor (a b: bit by bit)");
        pair("min", 3, -4, -4);
        pair("min", -4, 3, -4);
        pair("min", 2, 2, 2);
        pair("min", MIN, MAX, MIN);
        pair("min", MAX, MIN, MIN);
        pair("max", 3, -4, 3);
        pair("max", -4, 3, 3);
        pair("max", 2, 2, 2);
        pair("max", MIN, MAX, MAX);
        pair("max", MAX, MIN, MAX);
    }

    private static void bits() {
        Desk.sentence("and or xor (a b: bit by bit) invert (a: all bits changed)");
        pair("and", 12, 10, 8);
        pair("or", 12, 10, 14);
        pair("xor", 12, 10, 6);
        pair("and", MIN, -1, MIN);
        pair("or", MIN, MAX, -1);
        pair("xor", -1, MAX, MIN);
        pair("and", MIN, MAX, 0);
        one("invert", 0, -1);
        one("invert", -1, 0);
        one("invert", MIN, MAX);
        one("invert", MAX, MIN);
        one("invert", 5, -6);
    }

    private static void shiftsByFiveBits() {
        Desk.sentence("lshift rshift (a b: a << (b & 31), a >>> (b & 31))");
        pair("lshift", 1, 0, 1);
        pair("lshift", 1, 4, 16);
        pair("lshift", 1, 31, MIN);
        pair("lshift", 1, 32, 1);
        pair("lshift", 1, 33, 2);
        pair("lshift", 1, -1, MIN);
        pair("lshift", 3, 31, MIN);
        pair("lshift", 5, MIN, 5);
        pair("rshift", -1, 0, -1);
        pair("rshift", -1, 28, 15);
        pair("rshift", -1, 1, MAX);
        pair("rshift", MIN, 31, 1);
        pair("rshift", -1, 32, -1);
        pair("rshift", 16, 36, 1);
        pair("rshift", -1, -1, 1);
        pair("rshift", -5, MIN, -5);
    }

    private static void comparisons() {
        Desk.sentence("= < > (a b: -1 or 0)");
        int[][] rows = {{1, 1}, {1, 2}, {2, 1}, {MIN, MAX}, {MAX, MIN}, {MIN, 1}, {MAX, -2}, {0, -1}, {-1, 0}, {MIN, MIN}, {0, MIN}};
        for (int[] row : rows) {
            pair("=", row[0], row[1], row[0] == row[1] ? -1 : 0);
            pair("<", row[0], row[1], row[0] < row[1] ? -1 : 0);
            pair(">", row[0], row[1], row[0] > row[1] ? -1 : 0);
        }
    }

    private static void comparisonsWithZero() {
        Desk.sentence("0= 0< (a: -1 or 0)");
        for (int a : new int[] {0, 1, -1, MIN, MAX, 65536}) {
            one("0=", a, a == 0 ? -1 : 0);
            one("0<", a, a < 0 ? -1 : 0);
        }
    }

    private static void cellsAreReadAndWritten() {
        Desk.sentence("@ (a: cell a) ! (a b: ; cell b becomes a)");
        for (int k = 0; k < 16; k++) {
            Desk d = new Desk().holding(9, MIN, k).leaves("!", 9);
            for (int other = 0; other < 16; other++) {
                Desk.due("cell(" + other + ")", d.forge.cell(other), other == k ? MIN : 0);
            }
            d.holding(k).leaves("@", 9, MIN);
            d.holding(k).leaves("@ " + k + " !", 9, MIN);
        }
    }

    private static void addingToACellWraps() {
        Desk.sentence("+! (a b: ; a is added to cell b, wrapping)");
        for (int k : new int[] {0, 7, 15}) {
            Desk d = new Desk().holding(9, 5, k).leaves("+!", 9);
            Desk.due("cell(" + k + ")", d.forge.cell(k), 5);
            d.holding(-12, k).leaves("+!", 9);
            Desk.due("cell(" + k + ")", d.forge.cell(k), -7);
            d.holding(1, k, MAX, k).leaves("! +!", 9);
            Desk.due("cell(" + k + ")", d.forge.cell(k), MIN);
            d.holding(-1, k).leaves("+!", 9);
            Desk.due("cell(" + k + ")", d.forge.cell(k), MAX);
            Desk.due("cell(8)", d.forge.cell(8), 0);
        }
    }

    private static void puttingOut() {
        Desk.sentence(". (a: ; a is put out)");
        Desk d = new Desk().holding(9, MIN).leaves(".", 9);
        Desk.due("output(0)", d.forge.output(0), MIN);
        d.holding(MAX).leaves(". 0 .", 9);
        Desk.due("output(0)", d.forge.output(0), 0);
        Desk.due("output(1)", d.forge.output(1), MAX);
        Desk.due("output(2)", d.forge.output(2), MIN);
        Desk.due("puts", d.forge.puts(), 3);
    }

    private static void valuesThatAreNotThere() {
        Desk.sentence("3 a value is taken that is not there");
        takes(NONE_TAKEN, 0);
        takes(ONE_TAKEN, 1);
        takes(TWO_TAKEN, 2);
        takes(new String[] {"rot"}, 3);
    }

    private static void takes(String[] words, int count) {
        for (String word : words) {
            for (int there = 0; there < count; there++) {
                new Desk().holdingTimes(there, 5).meets(word, 3, 0, 0);
                new Desk().meets(Desk.times(there, "5") + word + " 6", 3, there, there);
                new Desk().holdingTimes(there, 5).meets(": x " + word + " ; x", 3, 4, 1);
            }
            new Desk().holdingTimes(count, 5).makes(word, 1);
        }
    }

    private static void wordsThatNeedRoom() {
        Desk.sentence("4 the stack would have more than 32");
        for (String word : new String[] {"1", "-1", "dup", "over", "tuck", "?dup", "depth"}) {
            new Desk().holdingTimes(32, 5).meets(word, 4, 0, 0);
            new Desk().holdingTimes(32, 5).meets(": x " + word + " ; x", 4, 4, 1);
            Desk d = new Desk().holdingTimes(31, 5).makes(word, 1);
            Desk.due("depth behind " + word, d.forge.depth(), 32);
        }
        new Desk().meets(Desk.times(33, "5"), 4, 32, 32);
        new Desk().holdingTimes(31, 0).makes("?dup", 1);
    }

    private static void wordsThatNeedNoRoom() {
        Desk.sentence("4 the stack would have more than 32");
        String rest = "drop swap rot nip + - * / mod negate abs min max and or xor invert lshift rshift = < > 0= 0< @ ! +! .";
        for (String word : rest.split(" ")) {
            new Desk().holdingTimes(32, 5).makes(word, 1);
        }
        Desk zero = new Desk().holdingTimes(32, 0).makes("?dup", 1);
        Desk.due("depth", zero.forge.depth(), 32);
        new Desk().holdingTimes(32, 5).makes("drop 1 drop 2 nip dup", 6);
    }

    private static void zeroDivisors() {
        Desk.sentence("5 b is 0 in / or mod");
        for (String word : new String[] {"/", "mod"}) {
            new Desk().holding(1, 2, 0).meets(word, 5, 0, 0);
            new Desk().holding(0, 0).meets(word, 5, 0, 0);
            new Desk().holding(MIN, 0).meets("1 drop " + word + " 3", 5, 2, 2);
            new Desk().meets(": x " + word + " ; 4 0 x", 5, 6, 3);
            new Desk().holding(0, 1).leaves(word, 0);
            new Desk().holding(0, -1).leaves(word, 0);
            new Desk().holding(0, MIN).leaves(word, 0);
        }
    }

    private static void cellsThatAreNotThere() {
        Desk.sentence("6 there is no cell of that number");
        for (String word : new String[] {"@", "!", "+!"}) {
            for (int k : new int[] {-1, 16, 17, MIN, MAX, -16, 65536, 256}) {
                Desk d = new Desk().holding(1, k).meets(word, 6, 0, 0);
                new Desk().holding(1, k).meets(": x " + word + " ; x", 6, 4, 1);
                for (int c = 0; c < 16; c++) {
                    Desk.due("cell(" + c + ")", d.forge.cell(c), 0);
                }
            }
            new Desk().holding(1, 0).makes(word, 1);
            new Desk().holding(1, 15).makes(word, 1);
        }
        // Only the top is the number of a cell.
        new Desk().holding(16, 3).leaves("! 3 @", 16);
        new Desk().holding(-1, 3).leaves("+! 3 @", -1);
    }
}
