/** Promises 5 (faultAt), 7 (depth), 8 (value), 9 (push), 10 (cell), 11 (puts) and 12 (output). */
public final class AnswersTest {
    private static final int[] FAR = {-1, -2, Integer.MIN_VALUE, Integer.MAX_VALUE, 1 << 16, -65536};

    public static void main(String[] args) {
        faultAtOfTheLatestLoading();
        faultAtInBodies();
        faultsLeaveWhatWasDone();
        pushAndValues();
        pushedValuesAreUsed();
        cellsByNumber();
        outputs();
        Desk.end();
    }

    private static void faultAtOfTheLatestLoading() {
        Desk d = new Desk().meets("1 2 zz 3", 1, 2, 2);
        d.leaves("5", 5);
        Desk.due("faultAt", d.forge.faultAt(), -1);
        d.meets("+", 3, 0, 0);
        Desk.due("push", d.forge.push(4), true);
        Desk.due("faultAt behind push", d.forge.faultAt(), 0);
        Desk.due("steps behind push", d.forge.steps(), 0);
        d.forge.clear();
        Desk.due("load of nothing", d.forge.load(), 0);
        Desk.due("faultAt", d.forge.faultAt(), -1);
        d.holds("nothing", 4);
    }

    private static void faultAtInBodies() {
        new Desk().meets(": a 1 0 / ; : b 5 a ; 7 b 8", 5, 12, 1 + 1 + 1 + 1 + 2);
        new Desk().meets(": a drop drop ; 1 a", 3, 6, 3);
        new Desk().meets(": a 99 @ ; a", 6, 5, 2);
        new Desk().meets(": a begin 1 again ; a", 4, 6, 1 + 2 * 32);
        new Desk().meets(": a 50 0 do i loop ; 1 2 a", 4, 10, 2 + 1 + 2 + 1 + 2 * 30);
    }

    private static void faultsLeaveWhatWasDone() {
        Desk d = new Desk().meets(": a 1 ; 5 3 ! 9 . : b 2 ; 1 2 3 drop drop drop drop", 3, 19);
        Desk.due("definitions", d.forge.definitions(), 2);
        Desk.due("cell(3)", d.forge.cell(3), 5);
        Desk.due("output(0)", d.forge.output(0), 9);
        Desk.due("value(0)", d.forge.value(0), Desk.NONE);
        d.leaves("a b 3 @", 1, 2, 5);
        d.meets(": c 1 . 2 . drop drop drop drop ; c", 3, 11);
        Desk.due("puts", d.forge.puts(), 3);
        Desk.due("output(0)", d.forge.output(0), 2);
        Desk.due("output(1)", d.forge.output(1), 1);
    }

    private static void pushAndValues() {
        WordForge x = new WordForge();
        for (int n = 0; n < 32; n++) {
            Desk.due("depth", x.depth(), n);
            Desk.due("value(" + n + ")", x.value(n), Desk.NONE);
            Desk.due("push", x.push(100 + n), true);
        }
        Desk.due("push on full", x.push(7), false);
        Desk.due("push on full again", x.push(8), false);
        Desk.due("depth", x.depth(), 32);
        for (int k = 0; k < 32; k++) {
            Desk.due("value(" + k + ")", x.value(k), 131 - k);
        }
        Desk.due("value(32)", x.value(32), Desk.NONE);
        for (int k : FAR) {
            Desk.due("value(" + k + ")", x.value(k), Desk.NONE);
        }
        WordForge y = new WordForge();
        y.push(Integer.MIN_VALUE);
        y.push(Integer.MAX_VALUE);
        y.push(-1);
        Desk.due("least", y.value(2), Integer.MIN_VALUE);
        Desk.due("greatest", y.value(1), Integer.MAX_VALUE);
        Desk.due("minus one", y.value(0), -1);
    }

    private static void pushedValuesAreUsed() {
        Desk d = new Desk();
        d.forge.push(6);
        d.forge.push(7);
        d.leaves("*", 42);
        d.forge.push(1);
        d.holds("push", 42, 1);
        d.meets("zz", 1, 0);
        Desk.due("push", d.forge.push(3), true);
        d.leaves("dup", 3, 3);
    }

    private static void cellsByNumber() {
        StringBuilder text = new StringBuilder();
        for (int k = 0; k < 16; k++) {
            text.append(-k - 1).append(' ').append(k).append(" ! ");
        }
        Desk d = new Desk().leaves(text.toString());
        for (int k = 0; k < 16; k++) {
            Desk.due("cell(" + k + ")", d.forge.cell(k), -k - 1);
        }
        Desk.due("cell(16)", d.forge.cell(16), Desk.NONE);
        for (int k : FAR) {
            Desk.due("cell(" + k + ")", d.forge.cell(k), Desk.NONE);
        }
    }

    private static void outputs() {
        Desk d = new Desk();
        for (int n = 1; n <= 40; n++) {
            d.leaves(n * 3 - 50 + " .");
            Desk.due("puts", d.forge.puts(), n);
            for (int k = 0; k < 16; k++) {
                Desk.due("output(" + k + ") of " + n, d.forge.output(k), k < n ? (n - k) * 3 - 50 : Desk.NONE);
            }
        }
        Desk.due("output(16)", d.forge.output(16), Desk.NONE);
        Desk.due("output(39)", d.forge.output(39), Desk.NONE);
        for (int k : FAR) {
            Desk.due("output(" + k + ")", d.forge.output(k), Desk.NONE);
        }
        d.meets("drop", 3, 0);
        Desk.due("puts stay", d.forge.puts(), 40);
        d.leaves(": a 300 0 do i . loop ; a");
        Desk.due("puts", d.forge.puts(), 340);
        Desk.due("output(15)", d.forge.output(15), 284);
    }
}
