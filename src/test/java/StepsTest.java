/** Promise 6 (steps): what is a step, and the thousand of them that a loading makes at most. */
public final class StepsTest {
    /** With n before it, this word makes n + 5 steps, the n among them, and leaves the stack as it was. */
    private static final String BURN = ": w 0 do loop ; ";

    public static void main(String[] args) {
        noLoading();
        noWords();
        wordsOutside();
        wordsOfBodies();
        branchesTaken();
        roundsOfLoops();
        whatIsNoStep();
        manyWordsThatAreNoSteps();
        exitIsTheEnd();
        wordAtFaultIsNotCounted();
        latestLoadingAlone();
        thousandSteps();
        thousandFirstStepOutside();
        thousandFirstStepInABody();
        noStepsBehindTheThousandth();
        thousandFirstStepDoesNothing();
        Desk.end();
    }

    private static String burn(int steps) {
        return steps - 5 + " w ";
    }

    private static void noLoading() {
        Desk.sentence("How many steps the latest loading made; 0 if there was none.");
        Desk d = new Desk();
        Desk.due("steps", d.forge.steps(), 0);
        d.feed("1 2 3").holding(4);
        Desk.due("steps before load", d.forge.steps(), 0);
        Desk.due("load", d.forge.load(), 0);
        Desk.due("steps", d.forge.steps(), 3);
    }

    private static void noWords() {
        Desk.sentence("How many steps the latest loading made; 0 if there was none.");
        new Desk().makes("", 0).makes("   ", 0).makes("1", 1).makes("", 0);
    }

    private static void wordsOutside() {
        Desk.sentence("STEPS: each number, plain word, name, recurse, if, until, again, while, repeat, do, loop, i and exit that is done");
        String plain = "dup drop swap over rot nip tuck ?dup depth + - * / mod negate abs min max and or xor invert lshift rshift "
            + "= < > 0= 0< @ ! +! .";
        for (String word : plain.split(" ")) {
            new Desk().holding(5, 5, 5).makes(word, 1);
        }
        new Desk().makes("1", 1).makes("-1 2 3", 3).makes(": a ;", 0).makes("a", 2).makes("a a", 4);
    }

    private static void wordsOfBodies() {
        Desk.sentence("and each end of a body, is a step");
        new Desk().makes(": a ; a", 1 + 1);
        new Desk().makes(": a 1 2 + ; a", 1 + 3 + 1);
        new Desk().makes(": a ; : b a a ; b", 1 + 2 + 2 + 1);
        new Desk().makes(": a if 0 recurse then ; 1 a", 1 + 1 + 3 + 1 + 1 + 1);
    }

    private static void branchesTaken() {
        Desk.sentence("STEPS: each number, plain word, name, recurse, if, until, again, while, repeat, do, loop, i and exit that is done");
        new Desk().makes(": a if then ; 0 a", 1 + 1 + 1 + 1).makes("1 a", 1 + 1 + 1 + 1);
        new Desk().makes(": a if else then ; 0 a", 1 + 1 + 1 + 1).makes("1 a", 1 + 1 + 1 + 1);
        new Desk().makes(": a if 1 2 else 3 then ; 0 a", 1 + 1 + 1 + 1 + 1).makes("1 a", 1 + 1 + 1 + 2 + 1);
    }

    private static void roundsOfLoops() {
        Desk.sentence("STEPS: each number, plain word, name, recurse, if, until, again, while, repeat, do, loop, i and exit that is done");
        new Desk().makes(": a begin until ; 1 a", 1 + 1 + 1 + 1).makes("1 0 0 a", 3 + 1 + 3 + 1);
        new Desk().makes(": a begin while repeat ; 0 a", 1 + 1 + 1 + 1).makes("0 1 1 a", 3 + 1 + 2 * 2 + 1 + 1);
        new Desk().makes(": a begin if exit then again ; 1 a", 1 + 1 + 1 + 1).makes("1 0 0 a", 3 + 1 + 2 * 2 + 1 + 1);
        new Desk().makes(": a do loop ; 1 0 a", 2 + 1 + 1 + 1 + 1).makes("3 0 a", 2 + 1 + 1 + 3 + 1);
        new Desk().makes(": a do i loop ; 1 0 a", 2 + 1 + 1 + 2 + 1).makes("3 0 a", 2 + 1 + 1 + 3 * 2 + 1);
    }

    private static void whatIsNoStep() {
        Desk.sentence("(else, then, begin, and : ; forget with what they take are none; a word at fault is not counted)");
        new Desk().makes(": a 1 2 if + else - then ;", 0).makes("forget a", 0).makes(": a ; forget a", 0);
        new Desk().makes(": a if else then if else then ; 1 1 a", 2 + 1 + 2 + 1).makes("0 0 a", 2 + 1 + 2 + 1);
        new Desk().makes(": a begin begin begin 1 until 1 until 1 until ; a", 1 + 6 + 1);
        new Desk().makes("1 : a 2 3 ; forget a 4 : b ; 5", 3);
    }

    private static void manyWordsThatAreNoSteps() {
        Desk.sentence("(else, then, begin, and : ; forget with what they take are none; a word at fault is not counted)");
        String begins = ": b " + Desk.times(8, "begin") + "exit " + Desk.times(8, "again") + "; ";
        new Desk().makes(begins + ": a 0 do b loop ; 331 a", 1 + 1 + 1 + 1 + 331 * 3 + 1);
        // A branch that is not taken comes to the thens of all that it stands in.
        String nest = ": b " + Desk.times(7, "1 if") + "0 if else " + Desk.times(8, "then") + "; ";
        new Desk().makes(nest + ": a 0 do b loop ; 50 a", 1 + 1 + 1 + 1 + 50 * (1 + 2 * 8 + 1 + 1) + 1);
    }

    private static void exitIsTheEnd() {
        Desk.sentence("each end of a body, is a step");
        new Desk().makes(": a exit ; a", 1 + 1).makes(": b exit 1 2 ; b", 1 + 1).makes(": c b b ; c", 1 + 2 * 2 + 1);
        new Desk().makes(": a 9 0 do exit loop ; a", 1 + 2 + 1 + 1);
    }

    private static void wordAtFaultIsNotCounted() {
        Desk.sentence("a word at fault is not counted");
        new Desk().meets("drop", 3, 0, 0).meets("1 2 zz", 1, 2, 2).meets("1 0 /", 5, 2, 2).meets("1 16 !", 6, 2, 2);
        new Desk().meets(": r recurse ; r", 7, 4, 12);
        new Desk().meets(Desk.times(33, "1"), 4, 32, 32);
        new Desk().meets("1 : if ;", 9, 2, 1).meets("1 2 : a if ;", 2, 5, 2);
        new Desk().meets(": a 1 + ; a", 3, 5, 1 + 1);
    }

    private static void latestLoadingAlone() {
        Desk.sentence("How many steps the latest loading made; 0 if there was none.");
        Desk d = new Desk().makes("1 2 3", 3).makes("4", 1).meets("5 6 zz", 1, 2, 2).makes("7", 1);
        Desk.due("load again", d.forge.load(), 0);
        Desk.due("steps", d.forge.steps(), 1);
        d.holding(8);
        d.forge.clear();
        Desk.due("a wrong feed", d.forge.feed(1), -1);
        Desk.due("steps", d.forge.steps(), 1);
        d.makes(BURN + burn(1000), 1000).makes(burn(1000), 1000).makes("1", 1);
    }

    private static void thousandSteps() {
        Desk.sentence("a loading makes at most 1000");
        new Desk().makes(BURN + burn(999), 999).makes(burn(1000), 1000);
        new Desk().makes(BURN + burn(999) + "1", 1000);
        new Desk().makes(BURN + burn(500) + burn(500), 1000);
        new Desk().meets(BURN + burn(500) + burn(501), 8, 9, 1000);
        new Desk().meets(BURN + "5 " + burn(1000), 8, 8, 1000);
        new Desk().meets(": a begin again ; a 1", 8, 5, 1000);
        new Desk().meets(": a begin 0 until ; 7 a", 8, 7, 1000);
        new Desk().meets(": a begin 1 while repeat ; a", 8, 7, 1000);
        new Desk().meets(": a begin 1 drop again ; a", 8, 7, 1000);
        new Desk().meets(": b 0 begin 1 + again ; b", 8, 8, 1000);
    }

    private static void thousandFirstStepOutside() {
        Desk.sentence("8 the step would be the 1001st");
        String words = "1 -1 dup drop swap over rot nip tuck ?dup depth + - * / mod negate abs min max and or xor invert "
            + "lshift rshift = < > 0= 0< @ ! +! .";
        for (String word : words.split(" ")) {
            new Desk().leaves(BURN).holding(5, 5, 5).makes(burn(999) + word, 1000);
            new Desk().leaves(BURN).holding(5, 5, 5).meets(burn(1000) + word, 8, 2, 1000);
        }
        Desk d = new Desk().leaves(BURN + ": e ;");
        d.makes(burn(998) + "e", 1000).meets(burn(999) + "e", 8, 2, 1000).meets(burn(1000) + "e", 8, 2, 1000);
    }

    /** Each body makes as many steps as are told, its name and its end with it; one more before it is too many. */
    private static void thousandFirstStepInABody() {
        Desk.sentence("8 the step would be the 1001st");
        String[] bodies = {"", "7", "dup", "if then", "if else then", "begin until", "begin while repeat", "do loop", "do i loop",
            "exit", "if exit then", "begin if exit then again", "e", "if 0 recurse then"};
        int[] steps = {2, 3, 3, 3, 3, 3, 3, 4, 5, 2, 3, 3, 4, 7};
        for (int k = 0; k < bodies.length; k++) {
            // The tops suit every one of them: a loop of one round, a branch that is taken, a while that ends.
            int top = bodies[k].contains("while") ? 0 : 1;
            Desk d = new Desk().leaves(BURN + ": e ; : x " + bodies[k] + " ;");
            boolean counted = bodies[k].startsWith("do");
            for (int more = 0; more <= steps[k]; more++) {
                int before = 1000 - steps[k] + more;
                d.meets("zz", 1, 0).holding(counted ? new int[] {3, 2} : new int[] {top});
                if (more == 0) {
                    d.makes(burn(before) + "x", 1000);
                } else {
                    d.meets(burn(before) + "x", 8, 2, 1000);
                }
            }
        }
    }

    private static void noStepsBehindTheThousandth() {
        Desk.sentence("(else, then, begin, and : ; forget with what they take are none; a word at fault is not counted)");
        Desk d = new Desk().makes(BURN + burn(1000) + ": b 1 ; forget b : c ;", 1000).defines(2);
        // Words that are no steps are wrong ones still.
        d.meets(burn(1000) + "zz", 1, 2, 1000).meets(burn(1000) + "if", 1, 2, 1000).meets(burn(1000) + ";", 1, 2, 1000);
        d.meets(burn(1000) + ": a if ;", 2, 5, 1000).meets(burn(1000) + ": if", 9, 3, 1000);
        d.meets(burn(1000) + "forget zz", 1, 3, 1000).meets(burn(1000) + ":", 1, 3, 1000);
        Desk e = new Desk().leaves(BURN + ": x if else then begin until ;");
        e.holding(1, 1).makes(burn(996) + "x", 1000).holding(1, 0).makes(burn(996) + "x", 1000);
    }

    private static void thousandFirstStepDoesNothing() {
        Desk.sentence("With a fault the word at fault does nothing.");
        Desk d = new Desk().leaves(BURN).holding(5, 6, 7).meets(burn(999) + ". .", 8, 3, 1000);
        Desk.due("puts", d.forge.puts(), 1);
        Desk.due("output(0)", d.forge.output(0), 7);
        d.holding(9, 2).meets(burn(1000) + "!", 8, 2, 1000);
        Desk.due("cell(2)", d.forge.cell(2), 0);
        d.holding(9, 2).meets(burn(1000) + "+!", 8, 2, 1000);
        Desk.due("cell(2)", d.forge.cell(2), 0);
        d.holding(9, 2).makes(burn(999) + "+!", 1000);
        Desk.due("cell(2)", d.forge.cell(2), 9);
        d.meets(": p 1 . 2 . ; " + burn(997) + "p", 8, 9, 1000);
        Desk.due("puts", d.forge.puts(), 2);
        Desk.due("output(0)", d.forge.output(0), 1);
    }
}
