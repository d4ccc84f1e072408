/** Which bodies are balanced: fault 2 of promise 4, told at the ; . */
public final class BalanceTest {
    private static final String[][] KINDS = {{"if", "then"}, {"if else", "then"}, {"if", "else then"}, {"begin", "until"},
        {"begin", "again"}, {"begin while", "repeat"}, {"begin", "while repeat"}, {"do", "loop"}};

    public static void main(String[] args) {
        emptySequences();
        balancedBodies();
        bodiesThatDoNotClose();
        bodiesThatAreNotOpened();
        bodiesThatAreCrossed();
        partsThatAreTwiceThere();
        indexInsideALoopOfThisBody();
        indexOutsideEveryLoop();
        eightInOneAnother();
        nineInOneAnother();
        manyBesideOneAnother();
        kindsInOneAnother();
        refusedBodyLeavesNothing();
        Desk.end();
    }

    private static void accepted(String... bodies) {
        for (String body : bodies) {
            new Desk().leaves(": a " + body + " ;").defines(1);
        }
    }

    private static void refused(String... bodies) {
        for (String body : bodies) {
            String definition = ": a " + body + " ;";
            new Desk().meets(definition + " 1", 2, Desk.words(definition) - 1, 0).defines(0);
        }
    }

    private static void emptySequences() {
        Desk.sentence("a sequence is a row, also an empty one");
        accepted("", "if then", "if else then", "begin until", "begin again", "begin while repeat", "do loop");
        accepted("if 1 else then", "if else 1 then", "begin 1 while repeat", "begin while 1 repeat");
        new Desk().makes(": a ; a a a", 6);
    }

    private static void balancedBodies() {
        Desk.sentence("A body is BALANCED if its words are a SEQUENCE");
        accepted("exit", "recurse", "exit exit", "if exit else recurse then", "do if i then loop", "do begin i until loop",
            "begin do i loop until", "begin if then while repeat", "begin while if then repeat", "if if then else if then then",
            "begin begin while repeat while begin again repeat", "do do i loop i loop", "do loop if then do i loop",
            "if 1 dup else swap then begin 1 until", "begin 1 while 2 repeat", "begin begin until while repeat");
    }

    private static void bodiesThatDoNotClose() {
        Desk.sentence("2 a body is not balanced");
        refused("if", "begin", "do", "if else", "begin while", "if then if", "if if then", "if else if then", "begin begin until",
            "do do loop", "begin while begin again", "1 if 2", "do i", "if then begin");
    }

    private static void bodiesThatAreNotOpened() {
        Desk.sentence("2 a body is not balanced");
        refused("else", "then", "until", "again", "while", "repeat", "loop", "else then", "while repeat", "then if",
            "until begin", "loop do", "if then then", "if else then then", "if then else", "begin until until",
            "begin again again", "begin while repeat repeat", "do loop loop", "1 then", "begin until while repeat");
    }

    private static void bodiesThatAreCrossed() {
        Desk.sentence("2 a body is not balanced");
        refused("begin then", "begin loop", "begin repeat", "begin else", "begin else then", "begin while until",
            "begin while again", "begin while then", "begin while loop", "begin while else repeat",
            "do until", "do again", "do repeat", "do then", "do else", "do else loop", "do while loop", "do while repeat",
            "do while loop repeat", "if until", "if again", "if loop", "if while", "if repeat", "if while then", "if while repeat",
            "if else loop", "if else repeat", "if else until", "if else again", "if else while then");
        refused("if begin then until", "begin if until then", "do if loop then", "if do then loop", "begin do until loop",
            "begin if while then repeat", "begin while if repeat then", "do begin loop again", "if begin else until then",
            "if else begin then again", "do begin while loop repeat");
    }

    private static void partsThatAreTwiceThere() {
        Desk.sentence("if SEQUENCE then; if SEQUENCE else SEQUENCE then;");
        refused("if else else then", "begin while while repeat", "if else else else then", "begin while while until");
    }

    private static void indexInsideALoopOfThisBody() {
        Desk.sentence("i (only inside a do .. loop of this body)");
        accepted("do i loop", "do i i loop", "do if i else i then loop", "do begin i while i repeat loop", "do do loop i loop",
            "do i do i loop i loop", "do loop do i loop");
    }

    private static void indexOutsideEveryLoop() {
        Desk.sentence("i (only inside a do .. loop of this body)");
        refused("i", "do loop i", "i do loop", "if i then", "begin i until", "begin while i repeat", "do i loop if i then",
            "do do loop loop i", "1 i", "do loop i do loop");
        // The caller's loop is none of the body's own.
        new Desk().meets(": b i ; : a do b loop ;", 2, 3);
        new Desk().leaves(": a do i loop ;").meets(": b a i ;", 2, 4);
    }

    private static void eightInOneAnother() {
        Desk.sentence("At most 8 of these stand in one another.");
        for (String[] kind : KINDS) {
            for (int n = 1; n <= 8; n++) {
                accepted(Desk.times(n, kind[0]) + Desk.times(n, kind[1]));
            }
        }
        accepted(Desk.times(7, "do") + "if i else i then " + Desk.times(7, "loop"));
    }

    private static void nineInOneAnother() {
        Desk.sentence("At most 8 of these stand in one another.");
        for (String[] kind : KINDS) {
            for (int n = 9; n <= 12; n++) {
                refused(Desk.times(n, kind[0]) + Desk.times(n, kind[1]));
            }
            refused(Desk.times(9, kind[0]) + Desk.times(8, kind[1]));
            // The innermost of nine may stand behind another, and in the second part too.
            refused("if then " + Desk.times(9, kind[0]) + Desk.times(9, kind[1]));
            refused(Desk.times(8, "if else") + kind[0] + " " + kind[1] + " " + Desk.times(8, "then"));
            refused(Desk.times(8, "begin while") + kind[0] + " " + kind[1] + " " + Desk.times(8, "repeat"));
        }
    }

    private static void manyBesideOneAnother() {
        Desk.sentence("At most 8 of these stand in one another.");
        accepted(Desk.times(12, "if then") + Desk.times(12, "do i loop"));
        accepted(Desk.times(20, "begin until"));
        accepted(Desk.times(7, "do") + Desk.times(9, "if else then") + Desk.times(7, "loop"));
        // A definition's structures do not count for the one that names it.
        Desk d = new Desk().leaves(": a " + Desk.times(8, "if") + Desk.times(8, "then") + ";");
        d.leaves(": b " + Desk.times(8, "if") + "a " + Desk.times(8, "then") + ";").defines(2);
    }

    private static void kindsInOneAnother() {
        Desk.sentence("At most 8 of these stand in one another.");
        accepted("if begin do if begin do if begin until then loop until then loop until then");
        refused("if begin do if begin do if begin do loop until then loop until then loop until then");
        refused("if begin do if begin do if begin if then until then loop until then loop until then");
        refused("if begin do if begin do if begin begin again until then loop until then loop until then");
    }

    private static void refusedBodyLeavesNothing() {
        Desk.sentence("Definitions whose branches and loops do not close are refused");
        Desk d = new Desk().leaves(": a if 1 else 2 then ;");
        d.meets(": b do i ;", 2, 4).meets(": b if if if ;", 2, 5).defines(1);
        d.meets("b", 1, 0);
        d.leaves("0 a 1 a", 2, 1);
        d.leaves(": b 3 0 do i loop ; b", 2, 1, 0, 1, 2).defines(2);
        // Neither the loop that stayed open nor a word of the longer body is there for the next one.
        new Desk().meets(": b do ;", 2, 3).meets(": b i ;", 2, 3).defines(0);
        new Desk().meets(": b do do if ;", 2, 5).meets(": b do loop i ;", 2, 5).defines(0);
        for (String word : "if else then begin until again while repeat do loop i".split(" ")) {
            new Desk().meets(": b 1 " + word + " ;", 2, 4).leaves(": b 1 ; b", 1).leaves(": c ; c", 1).defines(2);
        }
    }
}
