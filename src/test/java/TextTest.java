/** Promises 1 (a new object), 2 (feed) and 3 (clear), and the words and numbers of a text. */
public final class TextTest {
    private static final String NEW = "No text, an empty stack, no definitions, nothing put out.";

    public static void main(String[] args) {
        newObjectHasNoText();
        newObjectHasAnEmptyStack();
        newObjectHasNoDefinitions();
        newObjectHasNothingPutOut();
        newObjectSharesNothing();
        feedTakesUpToFour();
        feedStopsAtTheFirstZero();
        feedRefusesEveryWrongCode();
        feedThatIsRefusedAppendsNone();
        feedFillsUpToThreeHundred();
        blanksAreCountedToo();
        clearOfNoText();
        clearOfAFullText();
        clearEmptiesTheTextAlone();
        textWithoutWords();
        wordsAtTheEndsOfTheText();
        wordsOverTheWholeText();
        numbersOfOneToNineDigits();
        negativeNumbers();
        wordsThatAreNearlyNumbers();
        Desk.end();
    }

    private static void newObjectHasNoText() {
        Desk.sentence(NEW);
        Desk d = new Desk();
        Desk.due("load", d.forge.load(), 0);
        Desk.due("faultAt", d.forge.faultAt(), -1);
        Desk.due("steps", d.forge.steps(), 0);
        d.feed("7").feed(" ".repeat(299));
        Desk.due("load", d.forge.load(), 0);
        d.holds("7", 7);
    }

    private static void newObjectHasAnEmptyStack() {
        Desk.sentence(NEW);
        Desk d = new Desk();
        Desk.due("depth", d.forge.depth(), 0);
        Desk.due("value(0)", d.forge.value(0), Desk.NONE);
        d.meets("drop", 3, 0, 0);
        new Desk().leaves("depth", 0);
        new Desk().holdingTimes(32, 1);
    }

    private static void newObjectHasNoDefinitions() {
        Desk.sentence(NEW);
        Desk d = new Desk();
        Desk.due("definitions", d.forge.definitions(), 0);
        Desk.due("body(0)", d.forge.body(0), -1);
        Desk.due("name(0)", d.forge.name(0), -1);
        d.meets("a", 1, 0, 0).meets("forget a", 1, 1, 0);
    }

    private static void newObjectHasNothingPutOut() {
        Desk.sentence(NEW);
        Desk d = new Desk();
        Desk.due("puts", d.forge.puts(), 0);
        for (int k = 0; k < 16; k++) {
            Desk.due("output(" + k + ")", d.forge.output(k), Desk.NONE);
        }
    }

    private static void newObjectSharesNothing() {
        Desk.sentence(NEW);
        Desk used = new Desk().leaves(": a 1 ; a 8 . 9 3 !", 1);
        Desk d = new Desk();
        Desk.due("load", d.forge.load(), 0);
        d.holds("nothing", new long[0]);
        d.defines(0);
        Desk.due("puts", d.forge.puts(), 0);
        Desk.due("cell(3)", d.forge.cell(3), 0);
        Desk.due("steps", d.forge.steps(), 0);
        d.meets("a", 1, 0);
        used.holds("the other", 1);
        used.leaves("a", 1, 1);
    }

    private static void feedTakesUpToFour() {
        Desk.sentence("Appends to the text the codes w & 255, w >> 8 & 255, w >> 16 & 255, w >> 24 & 255");
        Desk d = new Desk();
        Desk.due("feed of none", d.forge.feed(0), 0);
        Desk.due("feed of 1", d.forge.feed('1'), 1);
        Desk.due("feed of 2, 3", d.forge.feed('2' | '3' << 8), 2);
        Desk.due("feed of 4, blank, 5", d.forge.feed('4' | ' ' << 8 | '5' << 16), 3);
        Desk.due("feed of 6, blank, 7, 8", d.forge.feed('6' | ' ' << 8 | '7' << 16 | '8' << 24), 4);
        Desk.due("load", d.forge.load(), 0);
        d.holds("1234 56 78", 1234, 56, 78);
    }

    private static void feedStopsAtTheFirstZero() {
        Desk.sentence("up to before the first that is 0: how many");
        Desk d = new Desk();
        Desk.due("feed of 0 and more", d.forge.feed(0x33323100), 0);
        Desk.due("feed of 1, 0, 2, 3", d.forge.feed(0x33320031), 1);
        Desk.due("feed of 4, 5, 0, 6", d.forge.feed(0x36003534), 2);
        Desk.due("feed of 7, 8, 9, 0", d.forge.feed(0x00393837), 3);
        Desk.due("feed of the least int", d.forge.feed(Integer.MIN_VALUE), 0);
        // What stands behind the 0 is none of the codes, so it may be anything.
        Desk.due("feed of 1, 0, 127, 1", d.forge.feed(0x017f0031), 1);
        Desk.due("feed of 2, 3, 0, 255", d.forge.feed(0xff003332), 2);
        Desk.due("load", d.forge.load(), 0);
        d.holds("145789123", 145789123);
    }

    private static void feedRefusesEveryWrongCode() {
        Desk.sentence("-1, and none is, if one of them is not 32 .. 126");
        for (int place = 0; place < 4; place++) {
            for (int code = 1; code < 256; code++) {
                WordForge x = new WordForge();
                int w = 0x31313131 & ~(255 << 8 * place) | code << 8 * place;
                Desk.due("feed(" + w + ")", x.feed(w), code >= 32 && code <= 126 ? 4 : -1);
            }
        }
        Desk.due("feed(-1)", new WordForge().feed(-1), -1);
        Desk.due("feed of the greatest int", new WordForge().feed(Integer.MAX_VALUE), -1);
        Desk.due("feed(31)", new WordForge().feed(31), -1);
        Desk.due("feed(32)", new WordForge().feed(32), 1);
        Desk.due("feed(126)", new WordForge().feed(126), 1);
        Desk.due("feed(127)", new WordForge().feed(127), -1);
    }

    private static void feedThatIsRefusedAppendsNone() {
        Desk.sentence("-1, and none is, if one of them is not 32 .. 126");
        for (int place = 0; place < 4; place++) {
            Desk d = new Desk().feed("12");
            Desk.due("feed", d.forge.feed(0x39393939 & ~(255 << 8 * place) | 127 << 8 * place), -1);
            d.feed("34");
            Desk.due("load", d.forge.load(), 0);
            d.holds("1234", 1234);
        }
    }

    private static void feedFillsUpToThreeHundred() {
        Desk.sentence("or there would be more than 300");
        String four = "9999";
        for (int room = 0; room <= 4; room++) {
            for (int n = 0; n <= 4; n++) {
                Desk d = new Desk().feed(" ".repeat(300 - room));
                Desk.due(n + " into " + room, d.forge.feed(Desk.packed(four.substring(0, n))), n <= room ? n : -1);
                int left = n <= room ? room - n : room;
                for (int k = 0; k < left; k++) {
                    Desk.due("one more", d.forge.feed('8'), 1);
                }
                Desk.due("one too many", d.forge.feed('7'), -1);
                Desk.due("none more", d.forge.feed(0), 0);
                Desk.due("load", d.forge.load(), 0);
                String held = (n <= room ? four.substring(0, n) : "") + "8".repeat(left);
                d.holds(held, held.isEmpty() ? new long[0] : new long[] {Long.parseLong(held)});
            }
        }
    }

    private static void blanksAreCountedToo() {
        Desk.sentence("The TEXT has at most 300 characters with codes 33 .. 126, and blanks (32).");
        Desk blanks = new Desk().feed(" ".repeat(300));
        Desk.due("a blank too many", blanks.forge.feed(' '), -1);
        Desk none = new Desk().feed("~".repeat(300));
        Desk.due("a blank too many", none.forge.feed(' '), -1);
        Desk.due("load", none.forge.load(), 1);
        Desk.due("faultAt", none.forge.faultAt(), 0);
    }

    private static void clearOfNoText() {
        Desk.sentence("The text is empty.");
        Desk d = new Desk();
        d.forge.clear();
        d.forge.clear();
        Desk.due("load", d.forge.load(), 0);
        d.leaves("5", 5);
    }

    private static void clearOfAFullText() {
        Desk.sentence("The text is empty.");
        Desk d = new Desk().feed("1".repeat(300));
        d.forge.clear();
        Desk.due("load", d.forge.load(), 0);
        Desk.due("steps", d.forge.steps(), 0);
        d.feed(" ".repeat(299)).feed("6");
        Desk.due("one too many", d.forge.feed('6'), -1);
        Desk.due("load", d.forge.load(), 0);
        d.holds("6", 6);
        d.forge.clear();
        d.feed("12").forge.clear();
        d.feed("3");
        Desk.due("load", d.forge.load(), 0);
        d.holds("3 alone", 6, 3);
    }

    private static void clearEmptiesTheTextAlone() {
        Desk.sentence("The text is empty.");
        Desk d = new Desk().leaves(": a 1 ; a . 5 7 3 !", 5);
        d.forge.clear();
        d.holds("clear", 5);
        d.defines(1);
        Desk.due("puts", d.forge.puts(), 1);
        Desk.due("output(0)", d.forge.output(0), 1);
        Desk.due("cell(3)", d.forge.cell(3), 7);
        Desk.due("steps", d.forge.steps(), 8);
        d.meets("1 x", 1, 1, 1);
        d.forge.clear();
        Desk.due("faultAt behind clear", d.forge.faultAt(), 1);
        Desk.due("steps behind clear", d.forge.steps(), 1);
    }

    private static void textWithoutWords() {
        Desk.sentence("Its WORDS are the longest rows of characters without a blank.");
        new Desk().makes("", 0).makes(" ", 0).makes(" ".repeat(300), 0);
        new Desk().meets(" ".repeat(298) + ": ", 1, 1, 0);
    }

    private static void wordsAtTheEndsOfTheText() {
        Desk.sentence("Its WORDS are the longest rows of characters without a blank.");
        new Desk().leaves("12", 12).leaves(" 3  4 ", 12, 3, 4);
        new Desk().leaves("5" + " ".repeat(298) + "6", 5, 6);
        new Desk().leaves(" ".repeat(291) + "123456789", 123456789);
        new Desk().meets(" ".repeat(290) + "1234567890", 1, 0, 0);
        new Desk().meets("   1    x  ", 1, 1, 1);
        new Desk().meets("1+", 1, 0).meets("1.", 1, 0).meets("dupdup", 1, 0).meets("DUP", 1, 0).meets("du", 1, 0);
    }

    private static void wordsOverTheWholeText() {
        Desk.sentence("Its WORDS are the longest rows of characters without a blank.");
        Desk d = new Desk().makes(Desk.times(75, "1 ."), 150);
        Desk.due("puts", d.forge.puts(), 75);
        new Desk().meets(Desk.times(74, "1 .") + "1 x ", 1, 149, 149);
        new Desk().meets(Desk.times(74, "1 .") + "1 : ", 1, 150, 149);
        new Desk().meets("x".repeat(300), 1, 0, 0);
        new Desk().meets("1".repeat(300), 1, 0, 0);
    }

    private static void numbersOfOneToNineDigits() {
        Desk.sentence("A NUMBER is a word of one to nine digits");
        for (int n = 1; n <= 9; n++) {
            new Desk().leaves("9".repeat(n), Long.parseLong("9".repeat(n)));
            new Desk().leaves("0".repeat(n), 0);
            new Desk().leaves("1" + "0".repeat(n - 1), Math.round(Math.pow(10, n - 1)));
        }
        new Desk().leaves("0 1 2 3 4 5 6 7 8 9", 0, 1, 2, 3, 4, 5, 6, 7, 8, 9);
        new Desk().leaves("000000001", 1);
        new Desk().meets("1000000000", 1, 0, 0).meets("0000000001", 1, 0, 0).meets("2147483647", 1, 0, 0);
        new Desk().meets(": a 0000000001 ;", 1, 2).leaves(": a 000000001 ; a", 1);
    }

    private static void negativeNumbers() {
        Desk.sentence("or - and one to nine digits");
        for (int n = 1; n <= 9; n++) {
            new Desk().leaves("-" + "9".repeat(n), -Long.parseLong("9".repeat(n)));
        }
        new Desk().leaves("-0 -000000001 -1", 0, -1, -1);
        new Desk().meets("-1000000000", 1, 0, 0).meets("-0000000001", 1, 0, 0);
        new Desk().meets(": a -0000000001 ;", 1, 2).leaves(": a -000000001 ; a", -1);
    }

    private static void wordsThatAreNearlyNumbers() {
        Desk.sentence("A NUMBER is a word of one to nine digits, or - and one to nine digits.");
        new Desk().meets("-", 3, 0, 0).leaves("7 5 -", 2);
        // The codes next to those of the digits are / and : .
        String[] words = {"--1", "1-", "1-1", "+1", "1a", "a1", "-a", "-1a", "1.0", "0x1", "1/", "1:", "/1", ":1", "-/", "-:"};
        for (String word : words) {
            new Desk().meets("5 " + word, 1, 1, 1);
        }
    }
}
