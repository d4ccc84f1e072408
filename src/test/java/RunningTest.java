/** Running bodies in promise 4: branches, loops, exits, and bodies in one another. */
public final class RunningTest {
    private static final int MIN = Integer.MIN_VALUE;
    private static final int MAX = Integer.MAX_VALUE;
    private static final String DEEP = ": a1 ; : a2 a1 ; : a3 a2 ; : a4 a3 ; : a5 a4 ; : a6 a5 ; : a7 a6 ; : a8 a7 ; : a9 a8 ; "
        + ": b0 a9 ; : b1 b0 ; : b2 b1 ; : b3 b2 ; ";
    private static final String EIGHT = Desk.times(8, "1 0 do");
    private static final String FOUR = Desk.times(4, "1 0 do");

    public static void main(String[] args) {
        ifWithoutElse();
        ifWithElse();
        untilGoesOnUnlessZero();
        againAndRepeatGoBack();
        whileLeavesAtZero();
        doTakesLimitAndStart();
        loopEndsAtTheLimit();
        loopWraps();
        loopThatStartsAtItsLimit();
        indexOfTheInnermostLoop();
        indexOnAFullStack();
        controlWordsOnAFullStack();
        valuesOfControlWords();
        exitLeavesTheBody();
        exitClosesItsLoops();
        twelveBodies();
        thirteenBodies();
        twelveRecursions();
        manyBodiesBehindOneAnother();
        twelveLoops();
        thirteenLoops();
        manyLoopsBehindOneAnother();
        nextLoadingBeginsAnew();
        Desk.end();
    }

    private static void ifWithoutElse() {
        Desk.sentence("if takes a: is it 0, on behind its else, or behind its then if it has none");
        Desk d = new Desk().leaves(": a if 1 then 9 ;");
        d.leaves("0 a", 9);
        for (int v : new int[] {1, -1, MIN, MAX, 256, 65536}) {
            new Desk().leaves(": a if 1 then 9 ;").holding(v).leaves("a", 1, 9);
        }
        new Desk().leaves(": a if then ; 0 a 1 a");
        new Desk().leaves(": a if 1 if 2 then 3 then 4 ; 0 a 1 a", 4, 2, 3, 4);
    }

    private static void ifWithElse() {
        Desk.sentence("else: on behind its then");
        for (int v : new int[] {1, -1, MIN, MAX}) {
            new Desk().leaves(": a if 1 else 2 then 9 ;").holding(v).leaves("a", 1, 9);
        }
        new Desk().leaves(": a if 1 else 2 then 9 ; 0 a", 2, 9);
        new Desk().leaves(": a if else 2 then ; 0 a 1 a", 2);
        new Desk().leaves(": a if 1 else then ; 0 a 1 a", 1);
        new Desk().leaves(": a if if 1 else 2 then else if 3 else 4 then then ; 1 1 a 0 1 a 1 0 a 0 0 a", 1, 2, 3, 4);
    }

    private static void untilGoesOnUnlessZero() {
        Desk.sentence("until takes a: is it 0, on behind its begin");
        new Desk().leaves(": a begin dup . 1 - dup 0= until 9 ; 3 a", 0, 9);
        new Desk().leaves(": a begin until 9 ; 1 0 0 a", 9);
        for (int v : new int[] {1, -1, MIN, MAX}) {
            new Desk().leaves(": a begin until ;").holding(5, v).leaves("a", 5);
        }
        new Desk().leaves(": a begin begin 1 - dup 3 mod 0= until dup 0= until ; 8 a", 0);
    }

    private static void againAndRepeatGoBack() {
        Desk.sentence("again and repeat: on behind their begin");
        new Desk().leaves(": a begin 1 - dup 0= if exit then again ; 5 a", 0);
        new Desk().leaves(": a 7 begin dup while dup 1 - repeat nip ; 2 a", 2, 7, 6, 5, 4, 3, 2, 0);
        new Desk().leaves(": a begin begin dup 3 mod while 1 - repeat dup while 1 - repeat ; 8 a", 0);
    }

    private static void whileLeavesAtZero() {
        Desk.sentence("while takes a: is it 0, on behind its repeat");
        new Desk().leaves(": a begin dup while dup 1 - repeat 9 ; 3 a", 3, 2, 1, 0, 9);
        new Desk().leaves(": a begin while 5 . repeat 9 ; 0 a", 9);
        new Desk().leaves(": a begin while repeat 9 ;").holding(4, 0, 1, -1, MIN, MAX).leaves("a", 4, 9);
    }

    private static void doTakesLimitAndStart() {
        Desk.sentence("do takes limit and start (start is the top) and opens a LOOP with them");
        new Desk().leaves(": a do i loop ; 8 3 0 a", 8, 0, 1, 2);
        new Desk().leaves(": a do i loop ; 1 -2 a", -2, -1, 0);
        new Desk().leaves(": a do do i loop i loop ; 9 7 3 2 a", 7, 8, 2);
    }

    private static void loopEndsAtTheLimit() {
        Desk.sentence("is it the limit then, the loop is closed, else on behind its do");
        Desk d = new Desk().leaves(": a do i loop ;");
        d.holding(1, 0).leaves("a", 0);
        new Desk().leaves(": a do i loop ;").holding(MAX, MAX - 1).leaves("a", MAX - 1);
        new Desk().leaves(": a do i loop ;").holding(MIN + 1, MIN).leaves("a", MIN);
        new Desk().leaves(": a do i loop ;").holding(0, -1).leaves("a", -1);
        new Desk().makes(": a do loop ; 0 -900 a", 2 + 1 + 1 + 900 + 1);
    }

    private static void loopWraps() {
        Desk.sentence("its count, start at first, becomes one more (wrapping)");
        new Desk().leaves(": a do i loop ;").holding(MIN, MAX).leaves("a", MAX);
        new Desk().leaves(": a do i loop ;").holding(MIN + 1, MAX).leaves("a", MAX, MIN);
        new Desk().leaves(": a do i loop ;").holding(MIN + 2, MAX - 1).leaves("a", MAX - 1, MAX, MIN, MIN + 1);
    }

    private static void loopThatStartsAtItsLimit() {
        Desk.sentence("is it the limit then, the loop is closed, else on behind its do");
        new Desk().meets(": a do loop ; 0 0 a", 8, 7, 1000);
        new Desk().meets(": a do loop ; 0 1 a", 8, 7, 1000);
        new Desk().leaves(": a do loop ;").holding(MAX, MAX).meets("a", 8, 0, 1000);
        Desk d = new Desk().leaves(": a do i . loop ;").holding(5, 5).meets("a", 8, 0, 1000);
        // One name, one do, and rounds of three steps: the latest that is put out is that of round 333.
        Desk.due("output(0)", d.forge.output(0), 5 + 332);
        Desk.due("puts", d.forge.puts(), 333);
    }

    private static void indexOfTheInnermostLoop() {
        Desk.sentence("i pushes the count of the innermost loop");
        new Desk().leaves(": a 2 0 do i 12 10 do i loop i loop ; a", 0, 10, 11, 0, 1, 10, 11, 1);
        new Desk().leaves(": b 5 3 do i loop ; : a 2 0 do b i loop ; a", 3, 4, 0, 3, 4, 1);
        new Desk().leaves(": a 1 0 do 6 5 do 8 7 do i loop i loop i loop ; a", 7, 5, 0);
    }

    private static void indexOnAFullStack() {
        Desk.sentence("4 the stack would have more than 32");
        new Desk().leaves(": a 1 0 do i loop ;").holdingTimes(30, 5).makes("a", 1 + 2 + 1 + 1 + 1 + 1);
        new Desk().leaves(": a 1 0 do 7 8 i loop ;").holdingTimes(30, 5).meets("a", 4, 0, 1 + 2 + 1 + 2);
        new Desk().leaves(": a 40 0 do i loop ;").meets("a", 4, 0, 1 + 2 + 1 + 2 * 32);
    }

    private static void controlWordsOnAFullStack() {
        Desk.sentence("4 the stack would have more than 32");
        // Words that push nothing need no room: each of these comes to its words with 32 on the stack.
        full("", 1 + 1, 5);
        full("e", 1 + 2 + 1, 5);
        full("exit", 1 + 1, 5);
        full("if then", 1 + 1 + 1, 5);
        full("begin until", 1 + 2 + 1, 5, 0);
        full("begin while exit repeat", 1 + 1 + 1, 5);
        full("do loop", 1 + 1 + 1 + 1, 3, 2);
        full("do 7 7 loop", 1 + 1 + 2 + 1 + 1, 3, 2);
        full("begin if exit then 7 again", 1 + 1 + 1 + 1 + 1 + 1, 0);
        full("begin while 0 repeat", 1 + 1 + 1 + 1 + 1 + 1, 5);
        full("if 0 recurse then", 1 + 1 + 1 + 1 + 2 + 1, 5);
    }

    private static void full(String body, int steps, int... tops) {
        Desk d = new Desk().leaves(": e ; : x " + body + " ;").holdingTimes(32 - tops.length, 5).holding(tops);
        Desk.due("depth", d.forge.depth(), 32);
        d.makes("x", steps);
    }

    private static void valuesOfControlWords() {
        Desk.sentence("3 a value is taken that is not there");
        new Desk().meets(": a if then ; a", 3, 5, 1).makes("1 a", 4);
        new Desk().meets(": a begin until ; a", 3, 5, 1).makes("1 a", 4);
        new Desk().meets(": a begin until ; 0 0 a", 3, 7, 2 + 1 + 2);
        new Desk().meets(": a begin while repeat ; a", 3, 6, 1).makes("0 a", 4);
        new Desk().meets(": a begin while repeat ; 1 a", 3, 7, 4);
        new Desk().meets(": a do loop ; a", 3, 5, 1).meets("1 a", 3, 1, 2).makes("1 0 a", 2 + 1 + 1 + 1 + 1);
    }

    private static void exitLeavesTheBody() {
        Desk.sentence("and the running goes on behind where it was begun");
        new Desk().leaves(": a exit ; a a").leaves(": b 1 exit 2 ; b 3", 1, 3);
        new Desk().leaves(": a 1 exit 2 ; : b a 3 ; : c b a ; c 4", 1, 3, 1, 4);
        new Desk().leaves(": a if 1 exit else 2 then 3 ; 0 a 1 a", 2, 3, 1);
        new Desk().leaves(": a dup if 1 - recurse 5 exit then 6 exit 7 ; 2 a", 0, 6, 5, 5);
        new Desk().leaves(": a begin begin exit again again ; a 8", 8);
    }

    private static void exitClosesItsLoops() {
        Desk.sentence("its loops that are open are closed");
        new Desk().leaves(": a 9 0 do 9 0 do i 2 = if i exit then loop loop ; : b 5 3 do a i loop ; b", 2, 3, 2, 4);
        new Desk().leaves(": a 9 0 do 9 0 do exit loop loop ; : b 7 0 do a loop ; b b b");
        // The loops of the body that began it stay open.
        new Desk().leaves(": a exit ; : b 12 10 do 2 0 do a i loop a i loop ; b", 0, 1, 10, 0, 1, 11);
    }

    private static void twelveBodies() {
        Desk.sentence("At most 12 bodies are run in one another");
        new Desk().makes(DEEP + "b2", 24);
        new Desk().makes(DEEP + "b2 b2", 48);
    }

    private static void thirteenBodies() {
        Desk.sentence("7 a body too many, or a loop too many");
        new Desk().meets(DEEP + "b3", 7, 51, 12);
        new Desk().meets(DEEP + "b2 b3 5", 7, 52, 24 + 12).defines(13);
    }

    private static void twelveRecursions() {
        Desk.sentence("At most 12 bodies are run in one another");
        Desk d = new Desk().leaves(": a dup if dup 1 - recurse then ;");
        d.leaves("11 a", 11, 10, 9, 8, 7, 6, 5, 4, 3, 2, 1, 0);
        new Desk().meets(": a dup if dup 1 - recurse then ; 12 a", 7, 11, 1 + 1 + 12 * 6 - 1);
        new Desk().meets(": r recurse ; 1 2 r", 7, 6, 14).meets("r", 7, 0, 12);
        new Desk().leaves(": fac dup 1 > if dup 1 - recurse * then ; 12 fac 1 fac 0 fac", 479001600, 1, 0);
        new Desk().meets(": fac dup 1 > if dup 1 - recurse * then ; 13 fac", 7, 14);
    }

    private static void manyBodiesBehindOneAnother() {
        Desk.sentence("At most 12 bodies are run in one another");
        new Desk().makes(": a ; : b " + Desk.times(30, "a") + "; b b", 2 * (1 + 30 * 2 + 1));
        new Desk().makes(": a exit ; : b " + Desk.times(30, "a") + "; b b", 2 * (1 + 30 * 2 + 1));
        new Desk().makes(": a ; : b 0 do a loop ; 200 b", 1 + 1 + 1 + 1 + 200 * 3 + 1);
    }

    private static void twelveLoops() {
        Desk.sentence("at most 12 loops are open in all");
        String nest = ": a " + EIGHT + Desk.times(8, "loop") + "; ";
        String twelve = nest + ": b " + FOUR + "a " + Desk.times(4, "loop") + "; ";
        new Desk().makes(twelve + "b", 1 + 3 * 4 + (1 + 3 * 8 + 8 + 1) + 4 + 1);
        String innermost = ": a " + Desk.times(7, "1 0 do") + "9 6 do i loop " + Desk.times(7, "loop") + "; ";
        new Desk().leaves(innermost + ": b " + FOUR + "a " + Desk.times(4, "loop") + "; b", 6, 7, 8);
        // Twelve bodies with a loop each.
        new Desk().leaves(": r dup if 1 - 1 0 do recurse loop then ; 11 r", 0);
    }

    private static void thirteenLoops() {
        Desk.sentence("7 a body too many, or a loop too many");
        String nest = ": a " + EIGHT + Desk.times(8, "loop") + "; ";
        String thirteen = nest + ": b " + FOUR + "a " + Desk.times(4, "loop") + "; : c 1 0 do b loop ; ";
        new Desk().meets(thirteen + "c", 7, Desk.words(thirteen), 1 + 3 + 1 + 3 * 4 + 1 + 3 * 7 + 2);
        new Desk().meets(": r 1 0 do 1 0 do recurse loop loop ; r", 7, 12, 1 + 6 * 7 + 2);
        // Twelve loops are open here, and the thirteenth body is one too many.
        new Desk().meets(": r 1 0 do recurse loop ; r", 7, 8, 1 + 3 * 12 + 11);
    }

    private static void manyLoopsBehindOneAnother() {
        Desk.sentence("at most 12 loops are open in all");
        new Desk().makes(": a " + Desk.times(20, "1 0 do loop") + "; a", 1 + 20 * 4 + 1);
        new Desk().makes(": a 1 0 do loop ; : b 0 do a loop ; 50 b", 1 + 1 + 1 + 1 + 50 * 7 + 1);
        new Desk().makes(": a 1 0 do exit loop ; : b 0 do a loop ; 50 b", 1 + 1 + 1 + 1 + 50 * 6 + 1);
    }

    private static void nextLoadingBeginsAnew() {
        Desk.sentence("FAULTS end the loading at once");
        Desk d = new Desk().leaves(": r dup if 1 - 1 0 do recurse loop then ;");
        d.meets("12 r", 7, 1).meets("12 r", 7, 1).leaves("11 r", 0);
        d.meets(": r recurse ; r", 7, 4).leaves("forget r 11 r", 0);
        Desk e = new Desk().leaves(DEEP);
        e.meets("b3", 7, 0).makes("b2", 24);
    }
}
