/** A desk on which words are defined from words. */
public final class WordForge {
    /** No int has this value, so it can say that there is none. */
    private static final long NO_INT = 4294967296L;

    /** The faults by which a loading ends, by the document's numbers. */
    private static final int NO_FAULT = 0;
    private static final int WRONG_WORD = 1;
    private static final int NOT_BALANCED = 2;
    private static final int VALUE_MISSING = 3;
    private static final int STACK_FULL = 4;
    private static final int ZERO_DIVISOR = 5;
    private static final int NO_CELL = 6;
    private static final int TOO_DEEP = 7;
    private static final int TOO_LONG = 8;
    private static final int BAD_DEFINITION = 9;

    private final Text text;
    private final Stack stack;
    private final Tape tape;
    private final Dictionary dictionary;
    private final Machine machine;
    private final Loader loader;

    public WordForge() {
        text = new Text();
        stack = new Stack();
        tape = new Tape();
        dictionary = new Dictionary();
        machine = new Machine(stack, tape, dictionary);
        loader = new Loader(text, dictionary, machine);
    }

    public int feed(int w) {
        return text.append(w);
    }

    public void clear() {
        text.erase();
    }

    public int load() {
        return loader.loadText();
    }

    public int faultAt() {
        return loader.faultPlace();
    }

    public int steps() {
        return machine.stepCount();
    }

    public int depth() {
        return stack.size();
    }

    public long value(int k) {
        return stack.has(k) ? stack.fromTop(k) : NO_INT;
    }

    public boolean push(int v) {
        return stack.put(v);
    }

    public long cell(int k) {
        return Machine.hasCell(k) ? machine.readCell(k) : NO_INT;
    }

    public int puts() {
        return tape.count();
    }

    public long output(int k) {
        return tape.has(k) ? tape.fromLatest(k) : NO_INT;
    }

    public int definitions() {
        return dictionary.size();
    }

    public int body(int k) {
        return dictionary.has(k) ? dictionary.endOf(k) - dictionary.startOf(k) : -1;
    }

    public long name(int k) {
        return dictionary.has(k) ? dictionary.keyOf(k) : -1;
    }

    /** The numbers of the words that are always there, in the order of their spellings, and of the other kinds of words. */
    static final class Op {
        static final String STACK_WORDS = "dup drop swap over rot nip tuck ?dup depth";
        static final int DUP = 0, DROP = 1, SWAP = 2, OVER = 3, ROT = 4, NIP = 5, TUCK = 6, DUP_UNLESS_ZERO = 7, DEPTH = 8;

        static final String PAIR_WORDS = "+ - * / mod min max and or xor lshift rshift = < >";
        static final int ADD = 9, SUBTRACT = 10, MULTIPLY = 11, DIVIDE = 12, MOD = 13, MIN = 14, MAX = 15;
        static final int AND = 16, OR = 17, XOR = 18, SHIFT_LEFT = 19, SHIFT_RIGHT = 20, EQUAL = 21, LESS = 22, MORE = 23;

        static final String LONE_WORDS = "negate abs invert 0= 0<";
        static final int NEGATE = 24, ABS = 25, INVERT = 26, IS_ZERO = 27, IS_NEGATIVE = 28;

        static final String STORE_WORDS = "@ ! +! .";
        static final int FETCH = 29, STORE = 30, ADD_TO_CELL = 31, PUT_OUT = 32;

        static final String CONTROL_WORDS = "if else then begin until again while repeat do loop i exit recurse";
        static final int IF = 33, ELSE = 34, THEN = 35, BEGIN = 36, UNTIL = 37, AGAIN = 38, WHILE = 39, REPEAT = 40;
        static final int DO = 41, LOOP = 42, INDEX = 43, EXIT = 44, RECURSE = 45;

        static final String MARKS = ": ; forget";
        static final int COLON = 46, SEMICOLON = 47, FORGET = 48;

        static final int SPELLED = 49;
        static final int NUMBER = 49, NAME = 50, END = 51, UNKNOWN = 52;

        /** How many values each takes from the stack; a row for each line of numbers above. */
        private static final int[] TAKES = {
            1, 1, 2, 2, 3, 2, 2, 1, 0,
            2, 2, 2, 2, 2, 2, 2,
            2, 2, 2, 2, 2, 2, 2, 2,
            1, 1, 1, 1, 1,
            1, 2, 2, 1,
            1, 0, 0, 0, 1, 0, 1, 0,
            2, 0, 0, 0, 0,
            0, 0, 0,
            0, 0, 0, 0,
        };

        /** How many values each pushes then, ?dup at the most. */
        private static final int[] GIVES = {
            2, 0, 2, 3, 3, 1, 3, 2, 1,
            1, 1, 1, 1, 1, 1, 1,
            1, 1, 1, 1, 1, 1, 1, 1,
            1, 1, 1, 1, 1,
            1, 0, 0, 0,
            0, 0, 0, 0, 0, 0, 0, 0,
            0, 0, 1, 0, 0,
            0, 0, 0,
            1, 0, 0, 0,
        };

        private Op() {
        }

        static int takes(int op) {
            return op >= 0 && op < TAKES.length ? TAKES[op] : 0;
        }

        static int gives(int op) {
            return op >= 0 && op < GIVES.length ? GIVES[op] : 0;
        }

        static boolean isPlain(int op) {
            return op >= DUP && op <= PUT_OUT;
        }

        static boolean isStackWord(int op) {
            return op >= DUP && op <= DEPTH;
        }

        static boolean isPairWord(int op) {
            return op >= ADD && op <= MORE;
        }

        static boolean isLoneWord(int op) {
            return op >= NEGATE && op <= IS_NEGATIVE;
        }

        static boolean isStoreWord(int op) {
            return op >= FETCH && op <= PUT_OUT;
        }

        static boolean isStep(int op) {
            return op != ELSE && op != THEN && op != BEGIN;
        }
    }

    /** Finds the words of Op by their keys. */
    static final class Vocabulary {
        private final long[] keys;

        Vocabulary() {
            keys = new long[Op.SPELLED];
            learn(Op.STACK_WORDS, Op.DUP);
            learn(Op.PAIR_WORDS, Op.ADD);
            learn(Op.LONE_WORDS, Op.NEGATE);
            learn(Op.STORE_WORDS, Op.FETCH);
            learn(Op.CONTROL_WORDS, Op.IF);
            learn(Op.MARKS, Op.COLON);
        }

        private void learn(String spellings, int firstOp) {
            int op = firstOp;
            for (int p = 0; p < spellings.length(); p++) {
                char c = spellings.charAt(p);
                if (c == ' ') {
                    op++;
                } else if (op >= 0 && op < keys.length) {
                    keys[op] = keys[op] * Text.KEY_BASE + c;
                }
            }
        }

        int find(long key) {
            for (int op = 0; op < keys.length; op++) {
                if (keys[op] == key) {
                    return op;
                }
            }
            return Op.UNKNOWN;
        }
    }

    /** The characters that were fed, and the word among them that is being looked at. */
    static final class Text {
        static final int LIMIT = 300;
        static final int CODES_PER_INT = 4;
        static final int DIGIT_LIMIT = 9;
        static final int KEY_BASE = 128;
        /** No word but a number that is longer than recurse has a meaning. */
        static final int KEY_LENGTH = 7;
        static final int NO_KEY = -1;

        private final char[] codes;
        private int length;
        private int wordStart;
        private int wordEnd;
        private int wordPlace;

        Text() {
            codes = new char[LIMIT];
        }

        void erase() {
            length = 0;
        }

        int append(int w) {
            int count = 0;
            while (count < CODES_PER_INT && codeOf(w, count) != 0) {
                if (codeOf(w, count) < 32 || codeOf(w, count) > 126) {
                    return -1;
                }
                count++;
            }
            if (length < 0 || length + count > codes.length) {
                return -1;
            }
            for (int k = 0; k < count; k++) {
                codes[length + k] = (char) codeOf(w, k);
            }
            length += count;
            return count;
        }

        private static int codeOf(int w, int k) {
            return (w >> 8 * k) & 255;
        }

        void rewind() {
            wordEnd = 0;
            wordPlace = -1;
        }

        /** Goes on to the next word, or, with the answer false, to behind the last. */
        boolean advance() {
            wordStart = wordEnd;
            while (wordStart < length && charAt(wordStart) == ' ') {
                wordStart++;
            }
            wordEnd = wordStart;
            while (wordEnd < length && charAt(wordEnd) != ' ') {
                wordEnd++;
            }
            wordPlace++;
            return wordStart < wordEnd;
        }

        private char charAt(int p) {
            return p >= 0 && p < length && p < codes.length ? codes[p] : ' ';
        }

        /** The number of the word; behind the last one, how many words there are. */
        int wordPlace() {
            return wordPlace;
        }

        int wordLength() {
            return wordEnd - wordStart;
        }

        /** The word's characters as one number: words are told apart by it. */
        long wordKey() {
            if (wordEnd - wordStart > KEY_LENGTH) {
                return NO_KEY;
            }
            long key = 0;
            for (int p = wordStart; p < wordEnd; p++) {
                key = key * KEY_BASE + charAt(p);
            }
            return key;
        }

        boolean isNumber() {
            int first = firstDigit();
            if (first >= wordEnd || wordEnd - first > DIGIT_LIMIT) {
                return false;
            }
            for (int p = first; p < wordEnd; p++) {
                if (charAt(p) < '0' || charAt(p) > '9') {
                    return false;
                }
            }
            return true;
        }

        int numberValue() {
            int first = firstDigit();
            int sum = 0;
            for (int p = first; p < wordEnd; p++) {
                sum = sum * 10 + (charAt(p) - '0');
            }
            return first > wordStart ? -sum : sum;
        }

        private int firstDigit() {
            return charAt(wordStart) == '-' ? wordStart + 1 : wordStart;
        }
    }

    /** The ints that words take and push. */
    static final class Stack {
        static final int LIMIT = 32;

        private final int[] values;
        private int size;

        Stack() {
            values = new int[LIMIT];
        }

        int size() {
            return size;
        }

        void empty() {
            size = 0;
        }

        boolean has(int k) {
            return k >= 0 && k < size;
        }

        boolean put(int v) {
            if (size < 0 || size >= values.length) {
                return false;
            }
            values[size] = v;
            size++;
            return true;
        }

        int take() {
            if (size <= 0 || size > values.length) {
                return 0;
            }
            size--;
            return values[size];
        }

        void drop(int n) {
            if (n >= 0 && n <= size) {
                size -= n;
            }
        }

        int fromTop(int k) {
            return k >= 0 && k < size && size <= values.length ? values[size - 1 - k] : 0;
        }
    }

    /** What was put out: how many in all, and the latest, for only these are asked for. */
    static final class Tape {
        /** A power of two, so that a mask finds the place in the ring. */
        static final int KEPT = 16;

        private final int[] latest;
        private int count;

        Tape() {
            latest = new int[KEPT];
        }

        int count() {
            return count;
        }

        void add(int v) {
            latest[count & (KEPT - 1)] = v;
            count++;
        }

        boolean has(int k) {
            return k >= 0 && k < KEPT && k < count;
        }

        int fromLatest(int k) {
            return latest[(count - 1 - k) & (KEPT - 1)];
        }
    }

    /** The words of all bodies in one row, each with what it needs: a number, a definition, or the place it leads to. */
    static final class Code {
        static final int LIMIT = 200;

        private final int[] ops;
        private final int[] args;

        Code() {
            ops = new int[LIMIT];
            args = new int[LIMIT];
        }

        int opAt(int p) {
            return p >= 0 && p < LIMIT ? ops[p] : Op.UNKNOWN;
        }

        int argAt(int p) {
            return p >= 0 && p < LIMIT ? args[p] : 0;
        }

        void set(int p, int op, int arg) {
            if (p >= 0 && p < LIMIT) {
                ops[p] = op;
                args[p] = arg;
            }
        }

        void lead(int p, int target) {
            if (p >= 0 && p < LIMIT) {
                args[p] = target;
            }
        }
    }

    /** Tells whether a body is balanced, and its branches and loops where they lead. */
    static final class Linker {
        static final int NESTING = 8;

        private final Code code;
        /** The places of the words that wait for the word that closes them, the innermost last. */
        private final int[] waiting;
        private int open;
        private int openLoops;

        Linker(Code code) {
            this.code = code;
            waiting = new int[NESTING];
        }

        boolean link(int from, int to) {
            open = 0;
            openLoops = 0;
            boolean fits = true;
            for (int p = from; p < to && fits; p++) {
                int op = code.opAt(p);
                switch (op) {
                    case Op.IF:
                    case Op.BEGIN:
                    case Op.DO:
                        fits = begin(p, op);
                        break;
                    case Op.ELSE:
                    case Op.WHILE:
                        fits = divide(p, op);
                        break;
                    case Op.THEN:
                    case Op.UNTIL:
                    case Op.AGAIN:
                    case Op.REPEAT:
                    case Op.LOOP:
                        fits = close(p, op);
                        break;
                    case Op.INDEX:
                        fits = openLoops > 0;
                        break;
                    default:
                        break;
                }
            }
            return fits && open == 0;
        }

        private boolean begin(int p, int op) {
            if (open < 0 || open >= waiting.length) {
                return false;
            }
            waiting[open] = p;
            open++;
            if (op == Op.DO) {
                openLoops++;
            }
            return true;
        }

        /** An else or a while waits from now on in the place of its if or begin. */
        private boolean divide(int p, int op) {
            if (open <= 0 || open > waiting.length) {
                return false;
            }
            int q = waiting[open - 1];
            waiting[open - 1] = p;
            if (op == Op.ELSE) {
                code.lead(q, p + 1);
                return code.opAt(q) == Op.IF;
            }
            // Until its repeat is met, a while keeps the place to which the repeat will lead.
            code.lead(p, q + 1);
            return code.opAt(q) == Op.BEGIN;
        }

        private boolean close(int p, int op) {
            if (open <= 0 || open > waiting.length) {
                return false;
            }
            open--;
            int q = waiting[open];
            int opener = code.opAt(q);
            switch (op) {
                case Op.THEN:
                    code.lead(q, p + 1);
                    return opener == Op.IF || opener == Op.ELSE;
                case Op.REPEAT:
                    code.lead(p, code.argAt(q));
                    code.lead(q, p + 1);
                    return opener == Op.WHILE;
                case Op.LOOP:
                    openLoops--;
                    code.lead(p, q + 1);
                    return opener == Op.DO;
                default:
                    code.lead(p, q + 1);
                    return opener == Op.BEGIN;
            }
        }
    }

    /** The definitions, the earliest first, and the body that is being read. */
    static final class Dictionary {
        static final int LIMIT = 20;
        static final int NAME_LENGTH = 6;
        static final int NOT_FOUND = -1;

        private final long[] keys;
        /** Where each body begins in the code; the one behind the last is where the next body will begin. */
        private final int[] starts;
        private final Code code;
        private final Linker linker;
        private int size;
        private int openLength;

        Dictionary() {
            keys = new long[LIMIT];
            starts = new int[LIMIT + 1];
            code = new Code();
            linker = new Linker(code);
        }

        int size() {
            return size;
        }

        Code code() {
            return code;
        }

        boolean has(int k) {
            return k >= 0 && k < size;
        }

        long keyOf(int k) {
            return k >= 0 && k < keys.length ? keys[k] : 0;
        }

        int startOf(int k) {
            return k >= 0 && k < starts.length ? starts[k] : 0;
        }

        int endOf(int k) {
            return k >= 0 && k < starts.length - 1 ? starts[k + 1] : 0;
        }

        int find(long key) {
            for (int k = size - 1; k >= 0; k--) {
                if (keyOf(k) == key) {
                    return k;
                }
            }
            return NOT_FOUND;
        }

        void forgetFrom(int k) {
            if (k >= 0 && k < size) {
                size = k;
            }
        }

        void openBody() {
            openLength = 0;
        }

        /** Words beyond the code's room are counted only: closeBody refuses such a body. */
        void addWord(int op, int arg) {
            code.set(startOf(size) + openLength, op, arg);
            openLength++;
        }

        int closeBody(long key) {
            int start = startOf(size);
            int end = start + openLength;
            if (size < 0 || size >= LIMIT || end > Code.LIMIT) {
                return BAD_DEFINITION;
            }
            if (!linker.link(start, end)) {
                return NOT_BALANCED;
            }
            keys[size] = key;
            size++;
            starts[size] = end;
            return NO_FAULT;
        }
    }

    /** The loops that are open, the innermost last. */
    static final class Loops {
        static final int LIMIT = 12;

        private final int[] counts;
        private final int[] limits;
        private int open;

        Loops() {
            counts = new int[LIMIT];
            limits = new int[LIMIT];
        }

        int openCount() {
            return open;
        }

        void closeDownTo(int left) {
            if (left >= 0 && left < open) {
                open = left;
            }
        }

        void begin(int limit, int start) {
            if (open >= 0 && open < LIMIT) {
                limits[open] = limit;
                counts[open] = start;
                open++;
            }
        }

        int innermostCount() {
            return open > 0 && open <= LIMIT ? counts[open - 1] : 0;
        }

        /** Counts the innermost loop on, and closes it at its limit; tells whether it goes round again. */
        boolean goesRound() {
            if (open <= 0 || open > LIMIT) {
                return false;
            }
            int innermost = open - 1;
            counts[innermost]++;
            if (counts[innermost] == limits[innermost]) {
                open = innermost;
                return false;
            }
            return true;
        }
    }

    /** Does words, step by step. */
    static final class Machine {
        static final int CELLS = 16;
        static final int STEP_LIMIT = 1000;
        static final int BODY_LIMIT = 12;
        /** Between two steps a body only goes forward, over no more words than there are. */
        static final int TURN_LIMIT = (STEP_LIMIT + 1) * (Code.LIMIT + 1);

        private final Stack stack;
        private final Tape tape;
        private final Dictionary dictionary;
        private final Code code;
        private final int[] cells;
        private final Loops loops;
        /** Of each body that is run: where it ends, where the running goes on behind it, and the loops open before it. */
        private final int[] ends;
        private final int[] returns;
        private final int[] loopsBefore;
        private int bodies;
        private int place;
        private int steps;

        Machine(Stack stack, Tape tape, Dictionary dictionary) {
            this.stack = stack;
            this.tape = tape;
            this.dictionary = dictionary;
            code = dictionary.code();
            cells = new int[CELLS];
            loops = new Loops();
            ends = new int[BODY_LIMIT];
            returns = new int[BODY_LIMIT];
            loopsBefore = new int[BODY_LIMIT];
        }

        static boolean hasCell(int k) {
            return k >= 0 && k < CELLS;
        }

        int readCell(int k) {
            return k >= 0 && k < CELLS ? cells[k] : 0;
        }

        private void writeCell(int k, int v) {
            if (k >= 0 && k < CELLS) {
                cells[k] = v;
            }
        }

        int stepCount() {
            return steps;
        }

        void begin() {
            steps = 0;
            bodies = 0;
            loops.closeDownTo(0);
        }

        void emptyStack() {
            stack.empty();
        }

        /** Does a word that stands outside definitions, a name with its whole body, and answers the fault. */
        int obey(int op, int arg) {
            int fault = doWord(op, arg);
            for (int turn = 0; turn < TURN_LIMIT && bodies > 0 && fault == NO_FAULT; turn++) {
                int p = place;
                place = p + 1;
                fault = atBodyEnd(p) ? doWord(Op.END, 0) : doWord(code.opAt(p), code.argAt(p));
            }
            return fault;
        }

        private boolean atBodyEnd(int p) {
            return bodies <= 0 || bodies > BODY_LIMIT || p >= ends[bodies - 1];
        }

        private int doWord(int op, int arg) {
            if (Op.isStep(op)) {
                int fault = faultOf(op);
                if (fault != NO_FAULT) {
                    return fault;
                }
                steps++;
            }
            if (Op.isStackWord(op)) {
                arrange(op);
            } else if (Op.isPairWord(op)) {
                int b = stack.take();
                int a = stack.take();
                stack.put(ofPair(op, a, b));
            } else if (Op.isLoneWord(op)) {
                stack.put(ofOne(op, stack.take()));
            } else if (Op.isStoreWord(op)) {
                store(op);
            } else {
                control(op, arg);
            }
            return NO_FAULT;
        }

        /** The fault that the step would meet, in the order in which the document has them told. */
        private int faultOf(int op) {
            int top = stack.fromTop(0);
            if (steps >= STEP_LIMIT) {
                return TOO_LONG;
            }
            if (stack.size() < Op.takes(op)) {
                return VALUE_MISSING;
            }
            if ((op == Op.FETCH || op == Op.STORE || op == Op.ADD_TO_CELL) && !hasCell(top)) {
                return NO_CELL;
            }
            if ((op == Op.DIVIDE || op == Op.MOD) && top == 0) {
                return ZERO_DIVISOR;
            }
            if ((op == Op.NAME || op == Op.RECURSE) && bodies >= BODY_LIMIT) {
                return TOO_DEEP;
            }
            if (op == Op.DO && loops.openCount() >= Loops.LIMIT) {
                return TOO_DEEP;
            }
            boolean pushesLess = op == Op.DUP_UNLESS_ZERO && top == 0;
            int given = pushesLess ? 1 : Op.gives(op);
            return stack.size() - Op.takes(op) + given > Stack.LIMIT ? STACK_FULL : NO_FAULT;
        }

        private void arrange(int op) {
            int c = stack.fromTop(0);
            int b = stack.fromTop(1);
            int a = stack.fromTop(2);
            switch (op) {
                case Op.DUP:
                    stack.put(c);
                    break;
                case Op.DROP:
                    stack.drop(1);
                    break;
                case Op.SWAP:
                    stack.drop(2);
                    stack.put(c);
                    stack.put(b);
                    break;
                case Op.OVER:
                    stack.put(b);
                    break;
                case Op.ROT:
                    stack.drop(3);
                    stack.put(b);
                    stack.put(c);
                    stack.put(a);
                    break;
                case Op.NIP:
                    stack.drop(2);
                    stack.put(c);
                    break;
                case Op.TUCK:
                    stack.drop(2);
                    stack.put(c);
                    stack.put(b);
                    stack.put(c);
                    break;
                case Op.DUP_UNLESS_ZERO:
                    if (c != 0) {
                        stack.put(c);
                    }
                    break;
                default:
                    stack.put(stack.size());
                    break;
            }
        }

        private static int ofPair(int op, int a, int b) {
            switch (op) {
                case Op.ADD:
                    return a + b;
                case Op.SUBTRACT:
                    return a - b;
                case Op.MULTIPLY:
                    return a * b;
                case Op.DIVIDE:
                    return b == 0 ? 0 : Math.floorDiv(a, b);
                case Op.MOD:
                    return b == 0 ? 0 : a - b * Math.floorDiv(a, b);
                case Op.MIN:
                    return Math.min(a, b);
                case Op.MAX:
                    return Math.max(a, b);
                case Op.AND:
                    return a & b;
                case Op.OR:
                    return a | b;
                case Op.XOR:
                    return a ^ b;
                case Op.SHIFT_LEFT:
                    return a << (b & 31);
                case Op.SHIFT_RIGHT:
                    return a >>> (b & 31);
                case Op.EQUAL:
                    return flag(a == b);
                case Op.LESS:
                    return flag(a < b);
                default:
                    return flag(a > b);
            }
        }

        private static int ofOne(int op, int a) {
            switch (op) {
                case Op.NEGATE:
                    return -a;
                case Op.ABS:
                    return a < 0 ? -a : a;
                case Op.INVERT:
                    return ~a;
                case Op.IS_ZERO:
                    return flag(a == 0);
                default:
                    return flag(a < 0);
            }
        }

        private static int flag(boolean holds) {
            return holds ? -1 : 0;
        }

        private void store(int op) {
            int top = stack.take();
            switch (op) {
                case Op.FETCH:
                    stack.put(readCell(top));
                    break;
                case Op.STORE:
                    writeCell(top, stack.take());
                    break;
                case Op.ADD_TO_CELL:
                    writeCell(top, readCell(top) + stack.take());
                    break;
                default:
                    tape.add(top);
                    break;
            }
        }

        private void control(int op, int arg) {
            switch (op) {
                case Op.NUMBER:
                    stack.put(arg);
                    break;
                case Op.NAME:
                case Op.RECURSE:
                    enter(arg);
                    break;
                case Op.EXIT:
                case Op.END:
                    leave();
                    break;
                case Op.INDEX:
                    stack.put(loops.innermostCount());
                    break;
                case Op.DO:
                    int start = stack.take();
                    loops.begin(stack.take(), start);
                    break;
                default:
                    if (leads(op)) {
                        place = arg;
                    }
                    break;
            }
        }

        /** Whether the running goes on at the place to which the word can lead. */
        private boolean leads(int op) {
            switch (op) {
                case Op.IF:
                case Op.UNTIL:
                case Op.WHILE:
                    return stack.take() == 0;
                case Op.LOOP:
                    return loops.goesRound();
                default:
                    return op == Op.ELSE || op == Op.AGAIN || op == Op.REPEAT;
            }
        }

        private void enter(int k) {
            if (bodies >= 0 && bodies < BODY_LIMIT) {
                ends[bodies] = dictionary.endOf(k);
                returns[bodies] = place;
                loopsBefore[bodies] = loops.openCount();
                bodies++;
                place = dictionary.startOf(k);
            }
        }

        private void leave() {
            if (bodies > 0 && bodies <= BODY_LIMIT) {
                bodies--;
                place = returns[bodies];
                loops.closeDownTo(loopsBefore[bodies]);
            }
        }
    }

    /** Takes the words of the text from the left. */
    static final class Loader {
        static final int NO_PLACE = -1;

        private final Text text;
        private final Dictionary dictionary;
        private final Machine machine;
        private final Vocabulary vocabulary;
        private int faultPlace;

        Loader(Text text, Dictionary dictionary, Machine machine) {
            this.text = text;
            this.dictionary = dictionary;
            this.machine = machine;
            vocabulary = new Vocabulary();
            faultPlace = NO_PLACE;
        }

        int faultPlace() {
            return faultPlace;
        }

        int loadText() {
            machine.begin();
            text.rewind();
            int fault = NO_FAULT;
            for (int n = 0; n < Text.LIMIT && fault == NO_FAULT && text.advance(); n++) {
                fault = takeWord();
            }
            faultPlace = fault == NO_FAULT ? NO_PLACE : text.wordPlace();
            if (fault != NO_FAULT) {
                machine.emptyStack();
            }
            return fault;
        }

        private int takeWord() {
            int op = opOfWord();
            if (op == Op.COLON) {
                return define();
            }
            if (op == Op.FORGET) {
                return forget();
            }
            if (Op.isPlain(op) || op == Op.NUMBER || op == Op.NAME) {
                return machine.obey(op, argOfWord(op));
            }
            return WRONG_WORD;
        }

        private int opOfWord() {
            if (text.isNumber()) {
                return Op.NUMBER;
            }
            long key = text.wordKey();
            int op = vocabulary.find(key);
            return op == Op.UNKNOWN && dictionary.find(key) != Dictionary.NOT_FOUND ? Op.NAME : op;
        }

        private int argOfWord(int op) {
            switch (op) {
                case Op.NUMBER:
                    return text.numberValue();
                case Op.NAME:
                    return dictionary.find(text.wordKey());
                case Op.RECURSE:
                    // The definition that is being read will stand behind all that are there.
                    return dictionary.size();
                default:
                    return 0;
            }
        }

        private int define() {
            if (!text.advance()) {
                return WRONG_WORD;
            }
            if (!canBeName(opOfWord())) {
                return BAD_DEFINITION;
            }
            long key = text.wordKey();
            dictionary.openBody();
            for (int n = 0; n < Text.LIMIT && text.advance(); n++) {
                int op = opOfWord();
                if (op == Op.SEMICOLON) {
                    return dictionary.closeBody(key);
                }
                if (op == Op.COLON || op == Op.FORGET || op == Op.UNKNOWN) {
                    return WRONG_WORD;
                }
                dictionary.addWord(op, argOfWord(op));
            }
            return WRONG_WORD;
        }

        private boolean canBeName(int op) {
            return (op == Op.NAME || op == Op.UNKNOWN) && text.wordLength() <= Dictionary.NAME_LENGTH;
        }

        private int forget() {
            if (!text.advance() || opOfWord() != Op.NAME) {
                return WRONG_WORD;
            }
            dictionary.forgetFrom(dictionary.find(text.wordKey()));
            return NO_FAULT;
        }
    }
}
