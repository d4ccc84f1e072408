import java.util.ArrayList;
import java.util.Arrays;
import java.util.List;
import java.util.Map;
import java.util.HashMap;

/** The document written a second time, with trees and exceptions, to compare the class with. */
final class Reference {
    private static final List<String> CONTROL = Arrays.asList(
        "if", "else", "then", "begin", "until", "again", "while", "repeat", "do", "loop", "i", "exit", "recurse");
    private static final List<String> MARKS = Arrays.asList(":", ";", "forget");
    private static final Map<String, Integer> TAKES = new HashMap<>();

    static {
        for (String word : "depth".split(" ")) {
            TAKES.put(word, 0);
        }
        for (String word : "dup drop ?dup negate abs invert 0= 0< @ .".split(" ")) {
            TAKES.put(word, 1);
        }
        for (String word : "swap over nip tuck + - * / mod min max and or xor lshift rshift = < > ! +!".split(" ")) {
            TAKES.put(word, 2);
        }
        TAKES.put("rot", 3);
    }

    /** A fault; its place is filled in where it is known. */
    private static final class Fault extends RuntimeException {
        private static final long serialVersionUID = 1L;
        final int number;

        Fault(int number) {
            super(null, null, false, false);
            this.number = number;
        }
    }

    /** Thrown by exit up to the body's beginning. */
    private static final class Exit extends RuntimeException {
        private static final long serialVersionUID = 1L;

        Exit() {
            super(null, null, false, false);
        }
    }

    private static final class Definition {
        String name;
        List<String> words = new ArrayList<>();
        List<Definition> meanings = new ArrayList<>();
        List<Node> tree;
    }

    /** A word, or a structure with up to two sequences. */
    private static final class Node {
        String word;
        Definition meaning;
        List<Node> first;
        List<Node> second;
    }

    private static final class Loop {
        int limit;
        int count;
    }

    private String text = "";
    private final List<Integer> stack = new ArrayList<>();
    private final int[] cells = new int[16];
    private final List<Integer> out = new ArrayList<>();
    private final List<Definition> dictionary = new ArrayList<>();
    private final List<Loop> loops = new ArrayList<>();
    private int bodies;
    private int steps;
    private int faultAt = -1;
    private String[] words;
    private int at;

    // What reads a body.
    private Definition read;
    private int readAt;

    int feed(int w) {
        StringBuilder more = new StringBuilder();
        for (int shift = 0; shift < 32 && (w >>> shift & 255) != 0; shift += 8) {
            more.append((char) (w >>> shift & 255));
        }
        if (!more.toString().matches("[ -~]*") || text.length() + more.length() > 300) {
            return -1;
        }
        text += more;
        return more.length();
    }

    void clear() {
        text = "";
    }

    int load() {
        steps = 0;
        faultAt = -1;
        bodies = 0;
        loops.clear();
        words = text.trim().isEmpty() ? new String[0] : text.trim().split(" +");
        try {
            for (at = 0; at < words.length; at++) {
                outside(words[at]);
            }
            return 0;
        } catch (Fault fault) {
            faultAt = at;
            stack.clear();
            return fault.number;
        }
    }

    private void outside(String word) {
        if (word.equals(":")) {
            define();
        } else if (word.equals("forget")) {
            at++;
            Definition meant = at < words.length ? meaning(words[at]) : null;
            if (meant == null) {
                throw new Fault(1);
            }
            int from = dictionary.indexOf(meant);
            dictionary.subList(from, dictionary.size()).clear();
        } else if (isNumber(word) || TAKES.containsKey(word)) {
            simple(word);
        } else if (meaning(word) != null) {
            call(meaning(word));
        } else {
            throw new Fault(1);
        }
    }

    private void define() {
        at++;
        if (at >= words.length) {
            throw new Fault(1);
        }
        Definition made = new Definition();
        made.name = words[at];
        if (made.name.length() > 6 || isNumber(made.name) || isFixed(made.name)) {
            throw new Fault(9);
        }
        for (at++; at < words.length && !words[at].equals(";"); at++) {
            String word = words[at];
            boolean known = isNumber(word) || TAKES.containsKey(word) || CONTROL.contains(word);
            if (!known && meaning(word) == null) {
                throw new Fault(1);
            }
            made.words.add(word);
            made.meanings.add(known ? null : meaning(word));
        }
        if (at >= words.length) {
            throw new Fault(1);
        }
        int all = made.words.size();
        for (Definition definition : dictionary) {
            all += definition.words.size();
        }
        if (dictionary.size() == 20 || all > 200) {
            throw new Fault(9);
        }
        read = made;
        readAt = 0;
        made.tree = sequence(0, false);
        if (readAt != made.words.size()) {
            throw new Fault(2);
        }
        dictionary.add(made);
    }

    private static boolean isNumber(String word) {
        return word.matches("-?[0-9]{1,9}");
    }

    private static boolean isFixed(String word) {
        return TAKES.containsKey(word) || CONTROL.contains(word) || MARKS.contains(word);
    }

    private Definition meaning(String word) {
        for (int k = dictionary.size() - 1; k >= 0; k--) {
            if (dictionary.get(k).name.equals(word)) {
                return dictionary.get(k);
            }
        }
        return null;
    }

    /** Reads up to the first word that no sequence begins with. */
    private List<Node> sequence(int depth, boolean inLoop) {
        List<Node> nodes = new ArrayList<>();
        while (readAt < read.words.size()) {
            String word = read.words.get(readAt);
            if (Arrays.asList("else", "then", "until", "again", "while", "repeat", "loop").contains(word)) {
                return nodes;
            }
            Node node = new Node();
            node.word = word;
            node.meaning = word.equals("recurse") ? read : read.meanings.get(readAt);
            readAt++;
            if (word.equals("i") && !inLoop) {
                throw new Fault(2);
            }
            if (word.equals("if") || word.equals("begin") || word.equals("do")) {
                if (depth == 8) {
                    throw new Fault(2);
                }
                structure(node, depth + 1, inLoop || word.equals("do"));
            }
            nodes.add(node);
        }
        return nodes;
    }

    private void structure(Node node, int depth, boolean inLoop) {
        node.first = sequence(depth, inLoop);
        String closing = readAt < read.words.size() ? read.words.get(readAt++) : "";
        String opening = node.word;
        node.word = opening + " " + closing;
        if (node.word.equals("if else")) {
            node.second = sequence(depth, inLoop);
            closing = readAt < read.words.size() ? read.words.get(readAt++) : "";
            node.word += " " + closing;
        } else if (node.word.equals("begin while")) {
            node.second = sequence(depth, inLoop);
            closing = readAt < read.words.size() ? read.words.get(readAt++) : "";
            node.word += " " + closing;
        }
        if (!Arrays.asList("if then", "if else then", "begin until", "begin again", "begin while repeat", "do loop")
            .contains(node.word)) {
            throw new Fault(2);
        }
    }

    private void step(int takes) {
        if (steps == 1000) {
            throw new Fault(8);
        }
        if (stack.size() < takes) {
            throw new Fault(3);
        }
    }

    private void call(Definition definition) {
        step(0);
        if (bodies == 12) {
            throw new Fault(7);
        }
        steps++;
        bodies++;
        int before = loops.size();
        try {
            run(definition.tree);
            step(0);
            steps++;
        } catch (Exit exit) {
            // The exit was the step.
        }
        while (loops.size() > before) {
            loops.remove(loops.size() - 1);
        }
        bodies--;
    }

    private void run(List<Node> nodes) {
        for (Node node : nodes) {
            run(node);
        }
    }

    private void run(Node node) {
        switch (node.word) {
            case "if then":
            case "if else then":
                if (test()) {
                    run(node.first);
                } else if (node.second != null) {
                    run(node.second);
                }
                break;
            case "begin until":
                do {
                    run(node.first);
                } while (!test());
                break;
            case "begin again":
                while (true) {
                    run(node.first);
                    step(0);
                    steps++;
                }
            case "begin while repeat":
                run(node.first);
                while (test()) {
                    run(node.second);
                    step(0);
                    steps++;
                    run(node.first);
                }
                break;
            case "do loop":
                loop(node);
                break;
            case "exit":
                step(0);
                steps++;
                throw new Exit();
            case "i":
                step(0);
                room(1);
                steps++;
                stack.add(loops.get(loops.size() - 1).count);
                break;
            default:
                if (node.meaning != null) {
                    call(node.meaning);
                } else {
                    simple(node.word);
                }
                break;
        }
    }

    private boolean test() {
        step(1);
        steps++;
        return pop() != 0;
    }

    private void loop(Node node) {
        step(2);
        if (loops.size() == 12) {
            throw new Fault(7);
        }
        steps++;
        Loop loop = new Loop();
        loop.count = pop();
        loop.limit = pop();
        loops.add(loop);
        do {
            run(node.first);
            step(0);
            steps++;
            loop.count++;
        } while (loop.count != loop.limit);
        loops.remove(loops.size() - 1);
    }

    private int pop() {
        return stack.remove(stack.size() - 1);
    }

    private void room(int more) {
        if (stack.size() + more > 32) {
            throw new Fault(4);
        }
    }

    private void simple(String word) {
        if (isNumber(word)) {
            step(0);
            room(1);
            steps++;
            stack.add(Integer.parseInt(word));
            return;
        }
        int takes = TAKES.get(word);
        step(takes);
        int size = stack.size();
        int[] v = new int[takes];
        for (int k = 0; k < takes; k++) {
            v[k] = stack.get(size - takes + k);
        }
        boolean cell = word.equals("@") || word.equals("!") || word.equals("+!");
        if (cell && (v[takes - 1] < 0 || v[takes - 1] > 15)) {
            throw new Fault(6);
        }
        if ((word.equals("/") || word.equals("mod")) && v[1] == 0) {
            throw new Fault(5);
        }
        int[] result = result(word, v, size);
        room(result.length - takes);
        steps++;
        for (int k = 0; k < takes; k++) {
            pop();
        }
        for (int r : result) {
            stack.add(r);
        }
        effect(word, v);
    }

    private void effect(String word, int[] v) {
        if (word.equals("!")) {
            cells[v[1]] = v[0];
        } else if (word.equals("+!")) {
            cells[v[1]] += v[0];
        } else if (word.equals(".")) {
            out.add(v[0]);
        }
    }

    private int[] result(String word, int[] v, int size) {
        switch (word) {
            case "depth": return row(size);
            case "dup": return row(v[0], v[0]);
            case "?dup": return v[0] == 0 ? row(0) : row(v[0], v[0]);
            case "swap": return row(v[1], v[0]);
            case "over": return row(v[0], v[1], v[0]);
            case "rot": return row(v[1], v[2], v[0]);
            case "nip": return row(v[1]);
            case "tuck": return row(v[1], v[0], v[1]);
            case "+": return row((long) v[0] + v[1]);
            case "-": return row((long) v[0] - v[1]);
            case "*": return row((long) v[0] * v[1]);
            case "/": return row(quotient(v[0], v[1]));
            case "mod": return row(v[0] - v[1] * quotient(v[0], v[1]));
            case "negate": return row(-(long) v[0]);
            case "abs": return row(Math.abs((long) v[0]));
            case "min": return row(v[0] < v[1] ? v[0] : v[1]);
            case "max": return row(v[0] > v[1] ? v[0] : v[1]);
            case "and": return row(v[0] & v[1]);
            case "or": return row(v[0] | v[1]);
            case "xor": return row(v[0] ^ v[1]);
            case "invert": return row(-1L - v[0]);
            case "lshift": return row((long) v[0] << (v[1] & 31));
            case "rshift": return row((v[0] & 0xffffffffL) >> (v[1] & 31));
            case "=": return row(v[0] == v[1] ? -1 : 0);
            case "<": return row(v[0] < v[1] ? -1 : 0);
            case ">": return row(v[0] > v[1] ? -1 : 0);
            case "0=": return row(v[0] == 0 ? -1 : 0);
            case "0<": return row(v[0] < 0 ? -1 : 0);
            case "@": return row(cells[v[0]]);
            default: return new int[0];
        }
    }

    private static long quotient(long a, long b) {
        long q = a / b;
        return q * b != a && (a < 0) != (b < 0) ? q - 1 : q;
    }

    private static int[] row(long... values) {
        int[] ints = new int[values.length];
        for (int k = 0; k < values.length; k++) {
            ints[k] = (int) values[k];
        }
        return ints;
    }

    int faultAt() {
        return faultAt;
    }

    int steps() {
        return steps;
    }

    int depth() {
        return stack.size();
    }

    long value(int k) {
        return k < 0 || k >= stack.size() ? 4294967296L : stack.get(stack.size() - 1 - k);
    }

    boolean push(int v) {
        return stack.size() < 32 && stack.add(v);
    }

    long cell(int k) {
        return k < 0 || k > 15 ? 4294967296L : cells[k];
    }

    int puts() {
        return out.size();
    }

    long output(int k) {
        return k < 0 || k > 15 || k >= out.size() ? 4294967296L : out.get(out.size() - 1 - k);
    }

    int definitions() {
        return dictionary.size();
    }

    List<String> names() {
        List<String> names = new ArrayList<>();
        for (Definition definition : dictionary) {
            names.add(definition.name);
        }
        return names;
    }

    int body(int k) {
        return k < 0 || k >= dictionary.size() ? -1 : dictionary.get(k).words.size();
    }

    long name(int k) {
        if (k < 0 || k >= dictionary.size()) {
            return -1;
        }
        long number = 0;
        for (char c : dictionary.get(k).name.toCharArray()) {
            number = number * 128 + c;
        }
        return number;
    }
}
