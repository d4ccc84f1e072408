/** The faults of promise 4: what they leave, where they are told, and which of two is told. */
public final class FaultsTest {
    /** A text for each fault; the fault is met at the last word or behind it. */
    private static final String[] TEXTS = {
        "7 zz", ": a if ;", "7 drop drop", Desk.times(33, "7"), "7 0 /", "7 16 @", ": r recurse ; 7 r", ": w begin again ; 7 w",
        ": if"};
    private static final String BURN = ": w 0 do loop ; ";

    public static void main(String[] args) {
        loadingEndsAtOnce();
        whatWasDoneStays();
        stackBecomesEmpty();
        openDefinitionIsGone();
        textStaysBehindAFault();
        wordsThatAreNone();
        controlWordsOutside();
        marksWhereTheyMayNotStand();
        nameThatIsNotThere();
        endThatIsNotThere();
        wordBehindForgetThatIsNotThere();
        wrongWordIsToldAtItsWord();
        wrongNameIsToldAtTheName();
        nineIsToldAtTheEnd();
        nineBeforeTwo();
        eightBeforeThree();
        eightBeforeSixAndFive();
        eightBeforeSeven();
        eightBeforeFour();
        threeBeforeSixAndFive();
        threeBeforeSeven();
        wordAtFaultDoesNothing();
        Desk.end();
    }

    private static void loadingEndsAtOnce() {
        Desk.sentence("FAULTS end the loading at once");
        for (int fault = 1; fault <= 9; fault++) {
            Desk d = new Desk();
            Desk.due("load", d.load(TEXTS[fault - 1] + " 5 . 6 2 ! : q 1 ; 3"), fault);
            Desk.due("puts", d.forge.puts(), 0);
            Desk.due("cell(2)", d.forge.cell(2), 0);
            Desk.due("depth", d.forge.depth(), 0);
            d.meets("q", 1, 0);
        }
    }

    private static void whatWasDoneStays() {
        Desk.sentence("what was done stays done");
        for (int fault = 1; fault <= 9; fault++) {
            Desk d = new Desk().leaves(": gone 1 ;");
            Desk.due("load", d.load("5 . 6 2 ! forget gone : q 8 ; q . " + TEXTS[fault - 1]), fault);
            Desk.due("puts", d.forge.puts(), 2);
            Desk.due("output(0)", d.forge.output(0), 8);
            Desk.due("output(1)", d.forge.output(1), 5);
            Desk.due("cell(2)", d.forge.cell(2), 6);
            Desk.due("name(0)", d.forge.name(0), 'q');
            d.leaves("q", 8);
        }
        Desk inBody = new Desk().meets(": c 1 . 4 3 ! 2 . drop ; c", 3, 11, 1 + 2 + 3 + 2).defines(1);
        Desk.due("puts", inBody.forge.puts(), 2);
        Desk.due("cell(3)", inBody.forge.cell(3), 4);
    }

    private static void stackBecomesEmpty() {
        Desk.sentence("but the stack becomes empty and the open definition is gone");
        for (int fault = 1; fault <= 9; fault++) {
            // The third fault needs an empty stack below it.
            Desk d = fault == 3 ? new Desk() : new Desk().holding(1, 2, 3);
            Desk.due("load", d.load(TEXTS[fault - 1]), fault);
            Desk.due("depth", d.forge.depth(), 0);
            Desk.due("value(0)", d.forge.value(0), Desk.NONE);
            d.holding(4).leaves("depth", 4, 1);
        }
        Desk full = new Desk().holdingTimes(32, 1).meets("zz", 1, 0, 0);
        full.holdingTimes(32, 2);
        Desk.due("push on full", full.forge.push(3), false);
    }

    private static void openDefinitionIsGone() {
        Desk.sentence("but the stack becomes empty and the open definition is gone");
        for (String open : new String[] {": a 1 2", ": a 1 zz", ": a 1 : b ;", ": a 1 forget", ": a if 1 ;", ": a"}) {
            Desk d = new Desk();
            Desk.due("load of " + open, d.load(open) != 0, true);
            d.defines(0);
            Desk.due("body(0)", d.forge.body(0), -1);
            Desk.due("name(0)", d.forge.name(0), -1);
            d.meets(";", 1, 0, 0).meets("a", 1, 0, 0).leaves("3 4", 3, 4);
            d.leaves(": a 5 ; a", 3, 4, 5).defines(1);
            Desk.due("body(0)", d.forge.body(0), 1);
        }
        new Desk().leaves(": a 1 ;").meets(": a 2", 1, 3).defines(1).leaves("a", 1);
    }

    private static void textStaysBehindAFault() {
        Desk.sentence("Loads the text: 0, or the fault. The text stays.");
        Desk d = new Desk().leaves(": a 1 ; a", 1);
        Desk.due("load again", d.forge.load(), 0);
        d.holds("again", 1, 1);
        d.defines(2).feed(" zz");
        for (int n = 3; n <= 5; n++) {
            Desk.due("load with more", d.forge.load(), 1);
            Desk.due("faultAt", d.forge.faultAt(), 5);
            d.defines(n);
        }
        d.feed(" ".repeat(300 - ": a 1 ; a zz".length()));
        Desk.due("one too many", d.forge.feed('1'), -1);
    }

    private static void wordsThatAreNone() {
        Desk.sentence("1 a word is none of those told");
        for (String word : new String[] {"zz", "Dup", "dupp", "du", "=0", "0>", "?", "::", "forgets", "1234567890", "~", "abcdefghij"}) {
            new Desk().meets("7 " + word + " 8", 1, 1, 1);
            new Desk().meets(": a 7 " + word + " 8 ;", 1, 3, 0).defines(0);
        }
    }

    private static void controlWordsOutside() {
        Desk.sentence("or stands where it may not (a control word or ; outside a definition, : or forget in one)");
        String control = "if else then begin until again while repeat do loop i exit recurse";
        for (String word : control.split(" ")) {
            new Desk().meets("1 1 1 " + word, 1, 3, 3);
            new Desk().meets(": a 1 ; " + word, 1, 4, 0).defines(1);
        }
    }

    private static void marksWhereTheyMayNotStand() {
        Desk.sentence("or stands where it may not (a control word or ; outside a definition, : or forget in one)");
        new Desk().meets(";", 1, 0, 0).meets("1 ; 2", 1, 1, 1).meets(": a ; ;", 1, 3).defines(1);
        new Desk().meets(": a 1 : b ; ;", 1, 3).meets(": a : ;", 1, 2).defines(0);
        new Desk().meets(": a ; : b forget a ;", 1, 5).meets(": b 1 forget", 1, 3).defines(1);
    }

    private static void nameThatIsNotThere() {
        Desk.sentence("or the word that must come next is not there");
        new Desk().meets(":", 1, 1, 0).meets("1 2 :  ", 1, 3, 2).meets(": a ; :", 1, 4).defines(1);
    }

    private static void endThatIsNotThere() {
        Desk.sentence("Where a word is not there (also the ; of a definition), the place is behind the last word.");
        new Desk().meets(": a", 1, 2, 0).meets(": a 1 2 +", 1, 5, 0).meets("5 : a  if   ", 1, 4, 1).meets(": a then", 1, 3);
        new Desk().meets(": a " + Desk.times(148, "1"), 1, 150);
        // The definition would be refused at its ; but is not read up to there.
        Desk d = new Desk().leaves(Desk.times(20, ": a ;"));
        d.meets(": b 1", 1, 3);
    }

    private static void wordBehindForgetThatIsNotThere() {
        Desk.sentence("Where a word is not there (also the ; of a definition), the place is behind the last word.");
        new Desk().meets("forget", 1, 1, 0).meets("1 2 forget  ", 1, 3, 2).meets(": a ; forget", 1, 4).defines(1);
    }

    private static void wrongWordIsToldAtItsWord() {
        Desk.sentence("In a definition: 1 is told at its word");
        new Desk().meets(": a if zz ;", 1, 3).meets(": a zz yy ;", 1, 2).meets(": a then zz", 1, 3).meets(": a i zz", 1, 3);
        Desk d = new Desk().leaves(Desk.times(20, ": a ;"));
        d.meets(": b 1 zz ;", 1, 3);
        Desk e = new Desk().leaves(": a " + Desk.times(140, "1") + ";");
        e.meets(": b " + Desk.times(61, "1") + "zz ;", 1, 63).meets(": b " + Desk.times(100, "1") + ": ;", 1, 102);
    }

    private static void wrongNameIsToldAtTheName() {
        Desk.sentence("9 for the name at the name, for the rest at the ;, 2 at the ; too (9 before 2)");
        new Desk().meets(": if zz ;", 9, 1).meets(": 5 if ;", 9, 1).meets(": toolong", 9, 1).meets("1 : : 2 ;", 9, 2, 1);
        Desk d = new Desk().leaves(Desk.times(20, ": a ;"));
        d.meets(": dup ;", 9, 1);
    }

    private static void nineIsToldAtTheEnd() {
        Desk.sentence("9 for the name at the name, for the rest at the ;, 2 at the ; too (9 before 2)");
        Desk d = new Desk().leaves(Desk.times(20, ": a ;"));
        d.meets("3 : b 1 2 ; 4", 9, 5, 1);
        Desk e = new Desk().leaves(": a " + Desk.times(140, "1") + ";");
        e.meets("3 : b " + Desk.times(100, "1") + "; 4", 9, 103, 1);
        new Desk().meets("3 : b if 1 ; 4", 2, 5, 1);
    }

    private static void nineBeforeTwo() {
        Desk.sentence("(9 before 2)");
        Desk d = new Desk().leaves(Desk.times(20, ": a ;"));
        d.meets(": b if ;", 9, 3).meets(": b i ;", 9, 3).meets(": b loop ;", 9, 3);
        Desk e = new Desk().leaves(": a " + Desk.times(140, "1") + ";");
        e.meets(": b if " + Desk.times(60, "1") + ";", 9, 63);
        e.meets(": b " + Desk.times(60, "1") + "then ;", 9, 63);
        e.meets(": b if " + Desk.times(59, "1") + ";", 2, 62);
    }

    private static void eightBeforeThree() {
        Desk.sentence("At a step: 8, 3, 6 or 5, 7, 4 in this order.");
        Desk d = new Desk().leaves(BURN + ": x if then ; : y begin until ; : v begin while repeat ; : u do loop ;");
        for (String word : new String[] {"+", "drop", "rot", "@", "!", "/"}) {
            d.meets("994 w " + word, 3, 2, 999).meets("995 w " + word, 8, 2, 1000);
        }
        for (String word : new String[] {"x", "y", "v", "u"}) {
            d.meets("993 w " + word, 3, 2, 999).meets("994 w " + word, 8, 2, 1000);
        }
    }

    private static void eightBeforeSixAndFive() {
        Desk.sentence("At a step: 8, 3, 6 or 5, 7, 4 in this order.");
        Desk d = new Desk().leaves(BURN);
        for (String word : new String[] {"@", "!", "+!"}) {
            d.holding(1, 16).meets("994 w " + word, 6, 2, 999);
            d.holding(1, 16).meets("995 w " + word, 8, 2, 1000);
        }
        for (String word : new String[] {"/", "mod"}) {
            d.holding(1, 0).meets("994 w " + word, 5, 2, 999);
            d.holding(1, 0).meets("995 w " + word, 8, 2, 1000);
        }
    }

    private static void eightBeforeSeven() {
        Desk.sentence("At a step: 8, 3, 6 or 5, 7, 4 in this order.");
        Desk bodies = new Desk().leaves(BURN + ": r recurse ;");
        bodies.meets("982 w r", 7, 2, 999).meets("983 w r", 8, 2, 1000);
        Desk loops = new Desk().leaves(BURN + ": r 1 0 do 1 0 do recurse loop loop ;");
        loops.meets("949 w r", 7, 2, 999).meets("950 w r", 8, 2, 1000);
    }

    private static void eightBeforeFour() {
        Desk.sentence("At a step: 8, 3, 6 or 5, 7, 4 in this order.");
        Desk d = new Desk().leaves(BURN);
        for (String word : new String[] {"1", "dup", "over", "tuck", "?dup", "depth"}) {
            d.holdingTimes(30, 5).meets("992 w 1 1 " + word, 4, 4, 999);
            d.holdingTimes(30, 5).meets("993 w 1 1 " + word, 8, 4, 1000);
        }
    }

    private static void threeBeforeSixAndFive() {
        Desk.sentence("At a step: 8, 3, 6 or 5, 7, 4 in this order.");
        for (String word : new String[] {"!", "+!"}) {
            new Desk().meets("16 " + word, 3, 1, 1).meets("-1 " + word, 3, 1, 1).meets("1 16 " + word, 6, 2, 2);
        }
        for (String word : new String[] {"/", "mod"}) {
            new Desk().meets("0 " + word, 3, 1, 1).meets("1 0 " + word, 5, 2, 2);
        }
    }

    private static void threeBeforeSeven() {
        Desk.sentence("At a step: 8, 3, 6 or 5, 7, 4 in this order.");
        // Behind twelve open loops, e opens one more, with what stands below.
        String deep = ": e do loop ; : a " + Desk.times(8, "1 0 do") + "e " + Desk.times(8, "loop") + "; ";
        Desk d = new Desk().leaves(deep + ": b " + Desk.times(4, "1 0 do") + "a " + Desk.times(4, "loop") + ";");
        int steps = 1 + 3 * 4 + 1 + 3 * 8 + 1;
        d.meets("b", 3, 0, steps);
        d.holding(5).meets("b", 3, 0, steps);
        d.holding(5, 6).meets("b", 7, 0, steps);
    }

    private static void wordAtFaultDoesNothing() {
        Desk.sentence("With a fault the word at fault does nothing.");
        Desk d = new Desk().leaves("5 3 ! : a 1 ; : b 2 ; : p . ;");
        d.meets(".", 3, 0).meets("3 !", 3, 1).meets("3 +!", 3, 1).meets("9 16 !", 6, 2).meets("9 -1 +!", 6, 2).meets("p", 3, 0);
        Desk.due("puts", d.forge.puts(), 0);
        for (int k = 0; k < 16; k++) {
            Desk.due("cell(" + k + ")", d.forge.cell(k), k == 3 ? 5 : 0);
        }
        d.meets("forget zz", 1, 1).meets("forget", 1, 1).meets(": a if ;", 2, 3).meets(": dup ;", 9, 1).defines(3);
        d.leaves("a b", 1, 2);
    }
}
