/** Defining and forgetting in promise 4, and promises 13 (definitions), 14 (body) and 15 (name). */
public final class DefinitionsTest {
    private static final String[] CONTROL = {
        "if", "else", "then", "begin", "until", "again", "while", "repeat", "do", "loop", "i", "exit", "recurse"};
    private static final String[] FIXED = {
        "dup", "drop", "swap", "over", "rot", "nip", "tuck", "?dup", "depth", "+", "-", "*", "/", "mod", "negate", "abs",
        "min", "max", "and", "or", "xor", "invert", "lshift", "rshift", "=", "<", ">", "0=", "0<", "@", "!", "+!", ".",
        "if", "else", "then", "begin", "until", "again", "while", "repeat", "do", "loop", "i", "exit", "recurse",
        ":", ";", "forget"};

    public static void main(String[] args) {
        definesAndRuns();
        namesAndBodies();
        meaningIsThatOfTheTime();
        badNames();
        wordsMissing();
        wordsMisplaced();
        forgets();
        atMostTwenty();
        atMostTwoHundredWords();
        orderAtTheEnd();
        openDefinitionIsGone();
        textStays();
        Desk.end();
    }

    private static void definesAndRuns() {
        Desk d = new Desk().leaves(": sq dup * ; 5 sq", 25);
        d.leaves("sq", 625);
        d.leaves(": quad sq sq ; drop 2 quad", 16);
        d.leaves(": none ; none", 16);
        Desk.due("steps", d.forge.steps(), 2);
        d.leaves(": Sq 1 ; Sq sq", 16, 1);
        new Desk().leaves(": a; 1 ; : ;a 2 ; : :: 3 ; a; ;a ::", 1, 2, 3);
        new Desk().leaves(": -- 4 ; : 12a 5 ; : -1a 6 ; -- 12a -1a", 4, 5, 6);
    }

    private static void namesAndBodies() {
        Desk d = new Desk().leaves(": a ; : ab 1 ; : abcdef if else then ; : ~!~ 1 2 3 ;");
        Desk.due("definitions", d.forge.definitions(), 4);
        String[] names = {"a", "ab", "abcdef", "~!~"};
        int[] lengths = {0, 1, 3, 3};
        for (int k = 0; k < names.length; k++) {
            Desk.due("name(" + k + ")", d.forge.name(k), number(names[k]));
            Desk.due("body(" + k + ")", d.forge.body(k), lengths[k]);
        }
        int[] none = {-1, 4, 5, 19, 20, 21, 1000, Integer.MIN_VALUE, Integer.MAX_VALUE};
        for (int k : none) {
            Desk.due("name(" + k + ")", d.forge.name(k), -1);
            Desk.due("body(" + k + ")", d.forge.body(k), -1);
        }
        Desk.due("a's number", d.forge.name(0), 97);
        Desk.due("ab's number", d.forge.name(1), 97 * 128 + 98);
        d.leaves(": a 7 8 ; a", 7, 8);
        Desk.due("name(4)", d.forge.name(4), 97);
        Desk.due("body(4)", d.forge.body(4), 2);
        Desk.due("body(0)", d.forge.body(0), 0);
    }

    private static long number(String name) {
        long n = 0;
        for (char c : name.toCharArray()) {
            n = n * 128 + c;
        }
        return n;
    }

    private static void meaningIsThatOfTheTime() {
        new Desk().leaves(": a 1 ; : b a ; : a 2 ; b a", 1, 2);
        new Desk().leaves(": a 1 ; : a a a ; a", 1, 1);
        new Desk().meets(": a a ;", 1, 2);
        new Desk().meets(": a b ; : b ;", 1, 2);
        new Desk().leaves(": a 1 ; : a ?dup if 1 - recurse then ; 3 a");
    }

    private static void badNames() {
        for (String word : FIXED) {
            Desk d = new Desk().meets("1 : " + word + " 1 ;", 9, 2, 1);
            Desk.due("definitions", d.forge.definitions(), 0);
        }
        String[] bad = {"1", "-1", "123456", "-12345", "123456789", "-123456789", "abcdefg", "1234567890", "a-very-long-name"};
        for (String word : bad) {
            new Desk().meets(": " + word, 9, 1);
        }
        new Desk().meets(": ; ;", 9, 1);
        new Desk().meets(": : a ;", 9, 1);
        new Desk().meets(": forget a ;", 9, 1);
        new Desk().leaves(": abcdef ; : dupp ; : IF ;");
    }

    private static void wordsMissing() {
        new Desk().meets(":", 1, 1);
        new Desk().meets("1 2 :  ", 1, 3);
        new Desk().meets(": a", 1, 2);
        new Desk().meets(": a 1 2 +", 1, 5);
        new Desk().meets(": a if", 1, 3);
        new Desk().meets("forget", 1, 1);
        new Desk().meets(": a ; forget", 1, 4);
    }

    private static void wordsMisplaced() {
        for (String word : CONTROL) {
            new Desk().meets("1 1 1 " + word, 1, 3, 3);
        }
        new Desk().meets(": a 1 : b ; ;", 1, 3);
        new Desk().meets(": a ; : b forget a ;", 1, 5);
        new Desk().meets(": a 1 zz ;", 1, 3);
        new Desk().meets(": a if zz", 1, 3);
        new Desk().meets(": a 1234567890 ;", 1, 2);
        new Desk().meets("zz", 1, 0);
        new Desk().meets("1 ;", 1, 1);
        Desk d = new Desk().meets(": a 1 ; 5 . : b : ;", 1, 8);
        Desk.due("definitions stay", d.forge.definitions(), 1);
        Desk.due("output stays", d.forge.output(0), 5);
    }

    private static void forgets() {
        Desk d = new Desk().leaves(": a 1 ; : b 2 ; : c 3 ; forget b");
        Desk.due("definitions", d.forge.definitions(), 1);
        d.meets("b", 1, 0).meets("c", 1, 0).leaves("a", 1);
        d.leaves("drop : b 4 4 ; b", 4, 4);
        Desk.due("body(1)", d.forge.body(1), 2);
        d.leaves(": a 5 ; forget a a", 4, 4, 1);
        Desk.due("definitions", d.forge.definitions(), 2);
        d.leaves("forget a", 4, 4, 1);
        Desk.due("definitions", d.forge.definitions(), 0);
        Desk.due("steps", d.forge.steps(), 0);
        Desk.due("name(0)", d.forge.name(0), -1);
        for (String word : FIXED) {
            new Desk().meets("1 forget " + word, 1, 2, 1);
        }
        new Desk().meets("forget 1", 1, 1).meets("forget abcdefgh", 1, 1).meets("forget forget", 1, 1);
        new Desk().meets(": a ; forget aa", 1, 4);
    }

    private static void atMostTwenty() {
        Desk d = new Desk().leaves(Desk.times(20, ": a 1 ;"));
        Desk.due("definitions", d.forge.definitions(), 20);
        Desk.due("body(19)", d.forge.body(19), 1);
        d.meets("1 : b 1 1 ;", 9, 5, 1);
        d.meets(": b 1 zz ;", 1, 3);
        d.meets(": b", 1, 2);
        Desk.due("definitions", d.forge.definitions(), 20);
        d.leaves("forget a : b 2 ; a b", 1, 2);
        Desk.due("definitions", d.forge.definitions(), 20);
    }

    private static void atMostTwoHundredWords() {
        Desk d = new Desk().leaves(": a " + Desk.times(140, "1") + ";");
        Desk.due("body(0)", d.forge.body(0), 140);
        d.meets(": b " + Desk.times(61, "1") + ";", 9, 63);
        Desk.due("definitions", d.forge.definitions(), 1);
        d.leaves(": b " + Desk.times(60, "2") + ";");
        Desk.due("body(1)", d.forge.body(1), 60);
        d.meets(": c 1 ;", 9, 3);
        d.leaves(": c ;");
        d.leaves("c");
        d.leaves("forget b : b 3 ; b", 3);
        d.meets(": d " + Desk.times(147, "1") + ";", 9, 149);
        d.leaves("forget a : d " + Desk.times(32, "5") + "; d", fives());
        d.meets("d", 4, 0);
    }

    private static long[] fives() {
        long[] values = new long[32];
        java.util.Arrays.fill(values, 5);
        return values;
    }

    private static void orderAtTheEnd() {
        Desk d = new Desk().leaves(Desk.times(20, ": a 1 ;"));
        d.meets(": b if ;", 9, 3);
        Desk e = new Desk().leaves(": a " + Desk.times(140, "1") + ";");
        e.meets(": b if " + Desk.times(60, "1") + ";", 9, 63);
        e.meets(": b if " + Desk.times(59, "1") + ";", 2, 62);
    }

    private static void openDefinitionIsGone() {
        Desk d = new Desk().meets("1 : a 1 2", 1, 5, 1);
        Desk.due("definitions", d.forge.definitions(), 0);
        d.meets(";", 1, 0);
        d.leaves(": a 3 ; a", 3);
        Desk.due("body(0)", d.forge.body(0), 1);
    }

    private static void textStays() {
        Desk d = new Desk().leaves(": a 1 ; a", 1);
        Desk.due("load again", d.forge.load(), 0);
        d.holds("again", 1, 1);
        Desk.due("definitions", d.forge.definitions(), 2);
        d.feed(" zz");
        Desk.due("load with more", d.forge.load(), 1);
        Desk.due("faultAt", d.forge.faultAt(), 5);
        Desk.due("definitions", d.forge.definitions(), 3);
        Desk.due("load with more again", d.forge.load(), 1);
        Desk.due("definitions", d.forge.definitions(), 4);
    }
}
