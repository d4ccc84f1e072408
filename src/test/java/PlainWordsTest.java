/** The plain words and numbers of promise 4, with their faults at every edge. */
public final class PlainWordsTest {
    private static final String LEAST = "-1 31 lshift";
    private static final long MIN = Integer.MIN_VALUE;
    private static final long MAX = Integer.MAX_VALUE;

    public static void main(String[] args) {
        numbers();
        stackWords();
        sums();
        quotients();
        bits();
        comparisons();
        cells();
        missingValues();
        fullStack();
        Desk.end();
    }

    private static void numbers() {
        new Desk().leaves("0 -0 7 -7 007 999999999 -999999999", 0, 0, 7, -7, 7, 999999999, -999999999);
        new Desk().leaves("000000001 -000000001", 1, -1);
        String[] none = {"1234567890", "-1234567890", "--1", "1-", "+1", "1a", "-a", "1.0", "0x1", "1234567890123"};
        for (String word : none) {
            new Desk().meets("5 " + word, 1, 1, 1);
        }
    }

    private static void stackWords() {
        new Desk().leaves("1 2 dup", 1, 2, 2);
        new Desk().leaves("1 2 drop", 1);
        new Desk().leaves("1 2 3 swap", 1, 3, 2);
        new Desk().leaves("1 2 3 over", 1, 2, 3, 2);
        new Desk().leaves("9 1 2 3 rot", 9, 2, 3, 1);
        new Desk().leaves("1 2 3 nip", 1, 3);
        new Desk().leaves("1 2 3 tuck", 1, 3, 2, 3);
        new Desk().leaves("1 2 ?dup", 1, 2, 2);
        new Desk().leaves("1 0 ?dup", 1, 0);
        new Desk().leaves("1 -3 ?dup", 1, -3, -3);
        new Desk().leaves("depth depth 7 depth", 0, 1, 7, 3);
    }

    private static void sums() {
        new Desk().leaves("7 3 +", 10).leaves("drop 7 3 -", 4).leaves("drop 7 -3 *", -21);
        new Desk().leaves(LEAST + " 1 -", MAX);
        new Desk().leaves(LEAST + " invert 1 +", MIN);
        new Desk().leaves("65536 65536 *", 0);
        new Desk().leaves("65537 65537 *", 131073);
        new Desk().leaves("999999999 999999999 *", 999999999 * 999999999);
        new Desk().leaves("5 negate -5 negate 0 negate", -5, 5, 0);
        new Desk().leaves(LEAST + " negate", MIN);
        new Desk().leaves("5 abs -5 abs 0 abs", 5, 5, 0);
        new Desk().leaves(LEAST + " abs", MIN);
        new Desk().leaves("3 -4 min 3 -4 max 2 2 min", -4, 3, 2);
        new Desk().leaves(LEAST + " dup invert min " + LEAST + " dup invert max", MIN, MAX);
    }

    private static void quotients() {
        int[][] pairs = {{7, 2}, {-7, 2}, {7, -2}, {-7, -2}, {6, 3}, {-6, 3}, {6, -3}, {0, 5}, {0, -5}, {1, 9}, {-1, 9}, {1, -9}};
        for (int[] pair : pairs) {
            long down = Math.floorDiv((long) pair[0], (long) pair[1]);
            String both = pair[0] + " " + pair[1] + " ";
            new Desk().leaves(both + "/ " + both + "mod", down, pair[0] - pair[1] * down);
        }
        new Desk().leaves(LEAST + " -1 /", MIN);
        new Desk().leaves(LEAST + " -1 mod", 0);
        new Desk().leaves(LEAST + " 3 / " + LEAST + " 3 mod", -715827883, 1);
        new Desk().meets("1 2 0 /", 5, 3, 3);
        new Desk().meets("1 2 0 mod", 5, 3, 3);
        new Desk().meets("0 /", 3, 1, 1);
        new Desk().meets("0 mod", 3, 1, 1);
        new Desk().leaves("0 1 / 0 1 mod", 0, 0);
    }

    private static void bits() {
        new Desk().leaves("12 10 and 12 10 or 12 10 xor", 8, 14, 6);
        new Desk().leaves("0 invert -1 invert 5 invert", -1, 0, -6);
        new Desk().leaves("1 4 lshift 1 32 lshift 1 33 lshift 1 -1 lshift", 16, 1, 2, MIN);
        new Desk().leaves("-1 28 rshift -1 32 rshift -1 -1 rshift 16 36 rshift", 15, -1, 1, 1);
    }

    private static void comparisons() {
        new Desk().leaves("1 1 = 1 2 = 1 2 < 2 1 < 1 1 <", -1, 0, -1, 0, 0);
        new Desk().leaves("1 2 > 2 1 > 1 1 >", 0, -1, 0);
        new Desk().leaves(LEAST + " 1 < " + LEAST + " 1 >", -1, 0);
        new Desk().leaves("0 0= 5 0= -5 0= 0 0< 5 0< -5 0<", -1, 0, 0, 0, 0, -1);
    }

    private static void cells() {
        Desk d = new Desk().leaves("7 0 ! 8 15 ! 0 @ 15 @ 1 @", 7, 8, 0);
        d.leaves("5 0 +! 0 @", 7, 8, 0, 12);
        Desk.due("cell(0)", d.forge.cell(0), 12);
        Desk.due("cell(15)", d.forge.cell(15), 8);
        d.leaves("drop drop drop drop " + LEAST + " invert 2 ! 1 2 +!");
        Desk.due("cell(2)", d.forge.cell(2), MIN);
        for (String word : new String[] {"!", "+!", "@"}) {
            new Desk().meets("1 16 " + word, 6, 2, 2);
            new Desk().meets("1 -1 " + word, 6, 2, 2);
        }
        new Desk().meets("16 @", 6, 1);
        new Desk().meets("16 !", 3, 1);
        new Desk().meets("16 +!", 3, 1);
        Desk left = new Desk().meets("3 1 ! 4 16 !", 6, 5);
        Desk.due("cell(1) stays", left.forge.cell(1), 3);
    }

    private static void missingValues() {
        String[] one = {"dup", "drop", "?dup", "negate", "abs", "invert", "0=", "0<", "@", "."};
        for (String word : one) {
            new Desk().meets(word, 3, 0, 0);
        }
        String[] two = {"swap", "over", "nip", "tuck", "+", "-", "*", "/", "mod", "min", "max", "and", "or", "xor",
            "lshift", "rshift", "=", "<", ">", "!", "+!"};
        for (String word : two) {
            new Desk().meets(word, 3, 0, 0);
            new Desk().meets("1 " + word, 3, 1, 1);
            new Desk().makes("3 5 " + word, 3);
        }
        new Desk().meets("rot", 3, 0).meets("1 rot", 3, 1).meets("1 2 rot", 3, 2).leaves("1 2 3 rot", 2, 3, 1);
    }

    private static void fullStack() {
        String full = Desk.times(32, "5");
        for (String word : new String[] {"1", "dup", "over", "tuck", "?dup", "depth"}) {
            new Desk().meets(full + word, 4, 32, 32);
            new Desk().makes(Desk.times(31, "5") + word, 32);
        }
        String rest = "drop swap rot nip + - * / mod negate abs min max and or xor invert lshift rshift = < > 0= 0< @ ! +! .";
        for (String word : rest.split(" ")) {
            Desk d = new Desk();
            d.load(full);
            Desk.due("full", d.forge.depth(), 32);
            Desk.due("on full: " + word, d.load(word), 0);
        }
        Desk zero = new Desk();
        zero.load(Desk.times(32, "0"));
        Desk.due("?dup of 0 on full", zero.load("?dup"), 0);
        Desk.due("depth", zero.forge.depth(), 32);
    }
}
