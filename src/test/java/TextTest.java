/** Promises 1 (a new object), 2 (feed) and 3 (clear). */
public final class TextTest {
    public static void main(String[] args) {
        newObject();
        feedCounts();
        feedStopsAtZero();
        feedRefusesCodes();
        feedRefusesTooMany();
        clearEmptiesTheTextAlone();
        wordsAreParted();
        Desk.end();
    }

    private static void newObject() {
        WordForge x = new WordForge();
        Desk.due("depth", x.depth(), 0);
        Desk.due("value(0)", x.value(0), Desk.NONE);
        Desk.due("definitions", x.definitions(), 0);
        Desk.due("body(0)", x.body(0), -1);
        Desk.due("name(0)", x.name(0), -1);
        Desk.due("puts", x.puts(), 0);
        Desk.due("output(0)", x.output(0), Desk.NONE);
        Desk.due("faultAt", x.faultAt(), -1);
        Desk.due("steps", x.steps(), 0);
        for (int k = 0; k < 16; k++) {
            Desk.due("cell(" + k + ")", x.cell(k), 0);
        }
        Desk.due("load", x.load(), 0);
        Desk.due("faultAt", x.faultAt(), -1);
        Desk.due("steps", x.steps(), 0);
    }

    private static void feedCounts() {
        Desk d = new Desk();
        Desk.due("feed of nothing", d.forge.feed(0), 0);
        Desk.due("feed of 1", d.forge.feed(Desk.packed("1")), 1);
        Desk.due("feed of 23", d.forge.feed(Desk.packed("23")), 2);
        Desk.due("feed of 4_5", d.forge.feed(Desk.packed("4 5")), 3);
        Desk.due("feed of 6_7_", d.forge.feed(Desk.packed("6 7 ")), 4);
        Desk.due("load", d.forge.load(), 0);
        d.holds("1234 56 7", 1234, 56, 7);
    }

    private static void feedStopsAtZero() {
        Desk d = new Desk();
        Desk.due("feed of 1, 0, 2, 3", d.forge.feed(0x33320031), 1);
        Desk.due("feed of 0 and more", d.forge.feed(0x33323100), 0);
        Desk.due("feed of 5, 0, 127, 1", d.forge.feed(0x017f0035), 1);
        Desk.due("feed of 6, 7, 0, 255", d.forge.feed(0xff003736), 2);
        Desk.due("load", d.forge.load(), 0);
        d.holds("1567", 1567);
    }

    private static void feedRefusesCodes() {
        int[] bad = {1, 31, 127, 128, 200, 255};
        for (int code : bad) {
            for (int place = 0; place < 4; place++) {
                Desk d = new Desk();
                int w = 0x31313131 & ~(255 << 8 * place) | code << 8 * place;
                Desk.due("feed(" + w + ")", d.forge.feed(w), -1);
                Desk.due("load", d.forge.load(), 0);
                d.holds("nothing", new long[0]);
            }
        }
        Desk d = new Desk();
        Desk.due("feed(-1)", d.forge.feed(-1), -1);
        Desk.due("feed of the least", d.forge.feed(Integer.MIN_VALUE), 0);
        Desk.due("feed of the greatest", d.forge.feed(Integer.MAX_VALUE), -1);
        Desk.due("feed of 126", d.forge.feed(126), 1);
        Desk.due("feed of 33", d.forge.feed(33), 1);
        Desk.due("feed of 32", d.forge.feed(32), 1);
    }

    private static void feedRefusesTooMany() {
        Desk d = new Desk();
        d.feed(" ".repeat(297));
        Desk.due("four more", d.forge.feed(Desk.packed("1234")), -1);
        Desk.due("three more", d.forge.feed(Desk.packed("123")), 3);
        Desk.due("one more", d.forge.feed(Desk.packed("4")), -1);
        Desk.due("none more", d.forge.feed(0), 0);
        Desk.due("load", d.forge.load(), 0);
        d.holds("123", 123);
        d.forge.clear();
        d.feed(" ".repeat(300));
        Desk.due("load of blanks", d.forge.load(), 0);
        Desk.due("steps of blanks", d.forge.steps(), 0);
    }

    private static void clearEmptiesTheTextAlone() {
        Desk d = new Desk();
        d.leaves(": a 1 ; a . 5 7 3 !", 5);
        d.forge.clear();
        d.holds("clear", 5);
        Desk.due("definitions", d.forge.definitions(), 1);
        Desk.due("puts", d.forge.puts(), 1);
        Desk.due("cell(3)", d.forge.cell(3), 7);
        Desk.due("steps", d.forge.steps(), 8);
        Desk.due("load", d.forge.load(), 0);
        Desk.due("steps", d.forge.steps(), 0);
        d.meets("1 x", 1, 1);
        d.forge.clear();
        Desk.due("faultAt behind clear", d.forge.faultAt(), 1);
    }

    private static void wordsAreParted() {
        new Desk().leaves("   1    2  ", 1, 2);
        new Desk().leaves("12", 12);
        new Desk().meets("  1   x  ", 1, 1);
        new Desk().meets("1+", 1, 0);
        new Desk().meets("DUP", 1, 0);
    }
}
