/** Which bodies are balanced: fault 2 of promise 4, told at the ; . */
public final class BalanceTest {
    public static void main(String[] args) {
        balanced();
        notBalanced();
        nesting();
        refusedBodyLeavesNothing();
        Desk.end();
    }

    private static void balanced() {
        String[] bodies = {
            "", "if then", "if else then", "begin until", "begin again", "begin while repeat", "do loop", "do i loop",
            "exit", "recurse", "if exit else recurse then", "do if i then loop", "do begin i until loop",
            "begin do i loop until", "begin if then while repeat", "if if then else if then then",
            "begin begin while repeat while begin again repeat", "do do i loop i loop", "do loop if then do i loop",
            "if 1 dup else swap then begin 1 until", "begin 1 while 2 repeat"};
        for (String body : bodies) {
            Desk d = new Desk().leaves(": a " + body + " ;");
            Desk.due("definitions with " + body, d.forge.definitions(), 1);
        }
    }

    private static void notBalanced() {
        String[] bodies = {
            "if", "else", "then", "begin", "until", "again", "while", "repeat", "do", "loop", "i",
            "if else", "else then", "then if", "if then then", "if else else then", "if else then then", "if then else",
            "begin then", "begin loop", "begin repeat", "begin while", "begin while until", "begin while again",
            "begin while while repeat", "begin else", "begin while else repeat", "while repeat", "begin until until",
            "begin while repeat repeat", "until begin", "do until", "do again", "do repeat", "do then", "do else",
            "do while loop repeat",
            "if until", "if again", "if loop", "if while", "if repeat", "if else loop", "if else repeat", "if else until",
            "do loop i", "i do loop", "do loop loop", "if i then", "begin i until",
            "if begin then until", "begin if until then", "do if loop then", "if do then loop", "begin do until loop",
            "begin if while then repeat", "begin while if repeat then", "do begin loop again", "if begin else until then",
            "do i loop if i then"};
        for (String body : bodies) {
            int place = 2 + body.split(" ").length;
            Desk d = new Desk().meets(": a " + body + " ; 1", 2, place, 0);
            Desk.due("definitions with " + body, d.forge.definitions(), 0);
        }
    }

    private static void nesting() {
        String[][] kinds = {{"if", "then"}, {"if else", "then"}, {"if", "else then"}, {"begin", "until"}, {"begin", "again"},
            {"begin while", "repeat"}, {"begin", "while repeat"}, {"do", "loop"}};
        for (String[] kind : kinds) {
            new Desk().leaves(": a " + Desk.times(8, kind[0]) + Desk.times(8, kind[1]) + ";");
            String open = ": a " + Desk.times(9, kind[0]) + Desk.times(8, kind[1]) + ";";
            new Desk().meets(open, 2, open.split(" ").length - 1);
            String nine = ": a " + Desk.times(9, kind[0]) + Desk.times(9, kind[1]) + ";";
            new Desk().meets(nine, 2, nine.split(" ").length - 1);
        }
        new Desk().leaves(": a " + Desk.times(12, "if then") + Desk.times(12, "do i loop") + ";");
        new Desk().leaves(": a if begin do if begin do if begin until then loop until then loop until then ;");
        new Desk().meets(": a if begin do if begin do if begin do loop until then loop until then loop until then ;", 2, 20);
        new Desk().leaves(": a " + Desk.times(7, "do") + "if i else i then " + Desk.times(7, "loop") + ";");
    }

    private static void refusedBodyLeavesNothing() {
        Desk d = new Desk().leaves(": a if 1 else 2 then ;");
        d.meets(": b do i ;", 2, 4);
        d.meets(": b if if if ;", 2, 5);
        d.leaves("0 a 1 a", 2, 1);
        d.leaves(": b 3 0 do i loop ; b", 2, 1, 0, 1, 2);
        Desk.due("definitions", d.forge.definitions(), 2);
    }
}
