/** Defining and forgetting in promise 4: names, meanings, and the room of the dictionary. */
public final class DefinitionsTest {
    private static final String[] FIXED = {
        "dup", "drop", "swap", "over", "rot", "nip", "tuck", "?dup", "depth", "+", "-", "*", "/", "mod", "negate", "abs",
        "min", "max", "and", "or", "xor", "invert", "lshift", "rshift", "=", "<", ">", "0=", "0<", "@", "!", "+!", ".",
        "if", "else", "then", "begin", "until", "again", "while", "repeat", "do", "loop", "i", "exit", "recurse",
        ":", ";", "forget"};

    public static void main(String[] args) {
        definitionsStayForLaterTexts();
        namesOfOneToSixCharacters();
        namesThatAreTooLong();
        namesThatAreNumbers();
        namesThatAreFixedWords();
        namesThatAreNearlyFixedWords();
        namesMeanTheLatest();
        namesMeanWhatTheyMeantThen();
        ownNameIsAnEarlierOneOrNone();
        recurseMeansThisOne();
        emptyBody();
        twentyDefinitions();
        twentyFirstIsRefused();
        twoHundredWords();
        wordsThatAreTooMany();
        refusedWordsAreNotKept();
        forgettingTheLast();
        forgettingTheFirst();
        forgettingTheLatestOfAName();
        forgettingMakesRoom();
        forgettingWhatIsNoName();
        Desk.end();
    }

    private static void definitionsStayForLaterTexts() {
        Desk.sentence("what is defined is there for all later texts");
        Desk d = new Desk().leaves(": sq dup * ; 5 sq", 25);
        d.leaves("sq", 625);
        d.leaves(": quad sq sq ; drop 2 quad", 16);
        d.forge.clear();
        Desk.due("load", d.forge.load(), 0);
        d.meets("zz", 1, 0).leaves("3 quad", 81).defines(2);
    }

    private static void namesOfOneToSixCharacters() {
        Desk.sentence("each with a NAME, a word of 1 to 6 characters");
        for (int n = 1; n <= 6; n++) {
            String name = "qwerty".substring(0, n);
            new Desk().leaves(": " + name + " 7 ; " + name, 7).defines(1);
        }
        // The first and the last code of a word's characters are those of ! and ~ .
        new Desk().leaves(": !!!!!! 1 ; : ~~~~~~ 2 ; : ~ 3 ; : !! 4 ; !!!!!! ~~~~~~ ~ !!", 1, 2, 3, 4);
        new Desk().leaves(": abcdef 1 ; : abcdeg 2 ; : abcde 3 ; abcdef abcdeg abcde", 1, 2, 3);
    }

    private static void namesThatAreTooLong() {
        Desk.sentence("9 a name has more than 6 characters");
        for (String name : new String[] {"abcdefg", "abcdefgh", "~~~~~~~", "a-very-long-name", "x".repeat(290)}) {
            new Desk().meets("3 : " + name + " 1 ;", 9, 2, 1).defines(0);
            new Desk().meets(": " + name, 9, 1, 0);
        }
        Desk d = new Desk().leaves(": abcdef 1 ;");
        d.meets("abcdefg", 1, 0).meets("abcde", 1, 0).meets(": a abcdefg ;", 1, 2).leaves("abcdef", 1);
    }

    private static void namesThatAreNumbers() {
        Desk.sentence("is a number");
        for (String name : new String[] {"0", "1", "-1", "-0", "99999", "123456", "-12345", "123456789", "-123456789"}) {
            new Desk().meets(": " + name + " 1 ;", 9, 1, 0).defines(0);
        }
        new Desk().leaves(": 12a 5 ; : -1a 6 ; : -- 4 ; : 1- 7 ; : 1-1 8 ; 12a -1a -- 1- 1-1", 5, 6, 4, 7, 8).defines(5);
    }

    private static void namesThatAreFixedWords() {
        Desk.sentence("a plain or control word, : ; or forget");
        for (String word : FIXED) {
            new Desk().meets("1 : " + word + " 1 ;", 9, 2, 1).defines(0);
            new Desk().meets(": " + word, 9, 1, 0);
        }
    }

    private static void namesThatAreNearlyFixedWords() {
        Desk.sentence("a plain or control word, : ; or forget");
        for (String word : FIXED) {
            String longer = word.length() < 6 ? word + "~" : word.substring(1);
            new Desk().leaves(": " + longer + " 7 ; " + longer, 7).defines(1);
        }
        new Desk().leaves(": DUP 1 ; : If 2 ; : ;; 3 ; : :: 4 ; : FORGET 5 ; : a; 6 ; DUP If ;; :: FORGET a;", 1, 2, 3, 4, 5, 6);
    }

    private static void namesMeanTheLatest() {
        Desk.sentence("A name means the latest definition of it.");
        Desk d = new Desk().leaves(": a 1 ; a : a 2 ; a : b 3 ; a : a 4 ; a", 1, 2, 2, 4).defines(4);
        d.leaves("a b", 1, 2, 2, 4, 4, 3);
    }

    private static void namesMeanWhatTheyMeantThen() {
        Desk.sentence("names in its body mean what they meant then");
        new Desk().leaves(": a 1 ; : b a ; : a 2 ; b a", 1, 2);
        new Desk().leaves(": a 1 ; : b a ; : a 2 ; : b b a ; : a 3 ; b a", 1, 2, 3);
        new Desk().meets(": a b ; : b ;", 1, 2, 0).defines(0);
    }

    private static void ownNameIsAnEarlierOneOrNone() {
        Desk.sentence("(its own name an earlier definition, or none; recurse means this one)");
        new Desk().meets(": a a ;", 1, 2).defines(0);
        new Desk().leaves(": a 1 ; : a a a ; : a a 2 ; a", 1, 1, 2).defines(3);
        new Desk().leaves(": a 1 ; forget a").meets(": a a ;", 1, 2);
    }

    private static void recurseMeansThisOne() {
        Desk.sentence("recurse means this one");
        new Desk().leaves(": a 99 ; : a dup if 1 - recurse then ; 3 a", 0);
        new Desk().leaves(": a dup if 1 - recurse then ; : b 5 a ; : a 7 ; b a", 0, 7);
        // The twentieth, and one that stands where a forgotten one stood.
        Desk d = new Desk().leaves(Desk.times(19, ": a ;")).leaves(": z dup if 1 - recurse then ; 4 z", 0).defines(20);
        d.leaves("forget z : y dup if 2 - recurse then ; 4 + y", 0);
    }

    private static void emptyBody() {
        Desk.sentence("whose body are the words up to the next ;");
        new Desk().makes(": a ; a", 2).makes(": b a ; b", 4).defines(2);
        new Desk().leaves(": a ; : b ; 4 a b", 4).defines(2);
        new Desk().meets(": a 1 ; ;", 1, 4).defines(1);
    }

    private static void twentyDefinitions() {
        Desk.sentence("The DICTIONARY has at most 20 DEFINITIONS");
        Desk d = new Desk();
        for (int n = 1; n <= 20; n++) {
            d.leaves(": n" + n + " " + n + " ;").defines(n);
        }
        for (int n = 1; n <= 20; n++) {
            d.leaves("n" + n + " .");
            Desk.due("n" + n, d.forge.output(0), n);
        }
        new Desk().leaves(Desk.times(20, ": a 1 ;")).defines(20);
    }

    private static void twentyFirstIsRefused() {
        Desk.sentence("the dictionary has 20");
        new Desk().meets(Desk.times(21, ": a 1 ;"), 9, 83, 0).defines(20);
        Desk d = new Desk().leaves(Desk.times(20, ": a 1 ;"));
        d.meets("1 : b 1 1 ;", 9, 5, 1).defines(20);
        d.meets(": b ;", 9, 2).meets(": a ;", 9, 2).defines(20);
        d.meets("b", 1, 0).leaves("a", 1);
    }

    private static void twoHundredWords() {
        Desk.sentence("together they have at most 200 words");
        Desk d = new Desk().leaves(": a " + Desk.times(140, "1") + ";");
        d.leaves(": b " + Desk.times(59, "2") + "; : c 3 ; c", 3).defines(3);
        d.leaves(": d ; d c", 3, 3).defines(4);
        Desk e = new Desk().leaves(": a " + Desk.times(147, "1") + ";").leaves(": b " + Desk.times(20, "2 .") + Desk.times(13, "3") + ";");
        e.leaves("b", 3, 3, 3, 3, 3, 3, 3, 3, 3, 3, 3, 3, 3);
        Desk.due("puts", e.forge.puts(), 20);
    }

    private static void wordsThatAreTooMany() {
        Desk.sentence("or its bodies would have more than 200 words together");
        Desk d = new Desk().leaves(": a " + Desk.times(140, "1") + ";");
        d.meets(": b " + Desk.times(61, "1") + ";", 9, 63).defines(1);
        d.meets(": b " + Desk.times(62, "1") + ";", 9, 64).defines(1);
        d.meets(": b " + Desk.times(140, "1") + ";", 9, 142).defines(1);
        d.leaves(": b " + Desk.times(60, "2") + ";").defines(2);
        d.meets(": c 1 ;", 9, 3).meets(": c 1 1 ;", 9, 4).meets(": a 1 ;", 9, 3).defines(2);
        d.leaves(": c ;").defines(3);
    }

    private static void refusedWordsAreNotKept() {
        Desk.sentence("or its bodies would have more than 200 words together");
        String many = Desk.times(139, "1");
        refusedThenFilled(": a if " + many + ";", 2, 142);
        refusedThenFilled(": a " + many + "zz", 1, 141);
        refusedThenFilled(": a " + many, 1, 141);
    }

    private static void refusedThenFilled(String text, int fault, int place) {
        Desk d = new Desk().meets(text, fault, place).meets(text, fault, place);
        d.leaves(": a " + Desk.times(140, "1") + ";").leaves(": b " + Desk.times(60, "1") + ";").defines(2);
    }

    private static void forgettingTheLast() {
        Desk.sentence("forget takes the definition that the next word means away, and all later ones");
        Desk d = new Desk().leaves(": a 1 ; : b 2 ; : c 3 ; forget c").defines(2);
        d.meets("c", 1, 0).leaves("a b", 1, 2);
        d.leaves("forget b", 1, 2).defines(1).leaves("forget a", 1, 2).defines(0);
        d.meets("a", 1, 0).meets("forget a", 1, 1);
    }

    private static void forgettingTheFirst() {
        Desk.sentence("forget takes the definition that the next word means away, and all later ones");
        Desk d = new Desk().leaves(": a 1 ; : b 2 ; : c 3 ; 9 forget a 8", 9, 8).defines(0);
        d.meets("a", 1, 0).meets("b", 1, 0).meets("c", 1, 0);
        Desk middle = new Desk().leaves(": a 1 ; : b a 2 ; : c b 3 ; forget b").defines(1);
        middle.meets("b", 1, 0).meets("c", 1, 0).leaves("a", 1);
        middle.leaves(": b 4 4 ; b", 1, 4, 4).defines(2);
        Desk.due("body(1)", middle.forge.body(1), 2);
    }

    private static void forgettingTheLatestOfAName() {
        Desk.sentence("forget takes the definition that the next word means away, and all later ones");
        Desk d = new Desk().leaves(": a 1 ; : b 2 ; : a 3 ; : c 4 ; forget a").defines(2);
        d.leaves("a b", 1, 2).meets("c", 1, 0);
        d.leaves("forget a").defines(0);
        new Desk().leaves(": a 1 ; : a a 2 ; forget a a", 1).defines(1);
    }

    private static void forgettingMakesRoom() {
        Desk.sentence("forget takes the definition that the next word means away, and all later ones");
        Desk d = new Desk().leaves(Desk.times(20, ": a 1 ;"));
        d.leaves("forget a : b 2 ; a b", 1, 2).defines(20);
        Desk e = new Desk().leaves(": a " + Desk.times(140, "1") + ";").leaves(": b " + Desk.times(60, "2") + ";");
        e.leaves("forget b : c " + Desk.times(59, "3") + ";").leaves(": d 5 ; d", 5).meets(": e 1 ;", 9, 3);
        e.leaves("forget a : f " + Desk.times(140, "6") + ";").leaves(": g " + Desk.times(60, "7") + ";").defines(2);
        e.meets(": h 1 ;", 9, 3);
    }

    private static void forgettingWhatIsNoName() {
        Desk.sentence("or the word behind forget is no name of the dictionary (told at that word)");
        for (String word : FIXED) {
            new Desk().meets("1 forget " + word, 1, 2, 1);
        }
        Desk d = new Desk().leaves(": a ; : abcdef ;");
        for (String word : new String[] {"1", "-1", "aa", "A", "abcde", "abcdefg", "b", "forget", "1234567890"}) {
            d.meets("7 forget " + word + " 8", 1, 2, 1).defines(2);
        }
    }
}
