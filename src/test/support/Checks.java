/** What the tests share: words worked out apart from the class, and answers held against those that are due. */
class Checks {
    static final int STOP = 0, ADD = 1, SUB = 2, MUL = 3, ADDN = 4, LOAD = 5, STORE = 6, JUMP = 7;
    static final int ZERO = 8, LESS = 9, AND = 10, XOR = 11, SHIFT = 12, DIV = 13;
    static final int MIN = -2147483648, MAX = 2147483647;

    private static String sentence = "";
    private static int wrong = 0;

    /** Names the document's sentence that the answers behind this call are due by. */
    static void sentence(String words) {
        sentence = "[" + words + "] ";
    }

    static void due(String what, long got, long want) {
        if (got != want) {
            wrong++;
            System.out.println(sentence + what + " answered " + got + ", due is " + want);
        }
    }

    static void due(String what, boolean got, boolean want) {
        due(what, got ? 1 : 0, want ? 1 : 0);
    }

    static void dueTaken(String what, WideMachine x, int... want) {
        for (int k = 0; k < want.length; k++) {
            due(what + ": taken(" + k + ")", x.taken(k), want[k]);
        }
    }

    static void dueKept(String what, WideMachine x, int... want) {
        for (int k = 0; k < 5; k++) {
            due(what + ": kept(" + k + ")", x.kept(k), k < want.length ? want[k] : -1);
        }
    }

    static void dueCycles(String what, int width, int[] words, int... want) {
        WideMachine x = with(width, 0, words);
        for (int k = 0; k < want.length; k++) {
            due(what + ", width " + width + ": cycle(0, " + k + ")", x.cycle(0, k), want[k]);
        }
    }

    static void dueRun(String what, WideMachine x, int end, int pc) {
        due(what + ": run()", x.run(), end);
        due(what + ": register(8)", x.register(8), pc);
    }

    static int word(int op, int d, int a, int b, int n) {
        return op + 16 * d + 128 * a + 1024 * b + 8192 * n;
    }

    /** An instruction that takes one cycle and, where register 0 is 0, makes register d 1. */
    static int number(int d) {
        return word(ADDN, d, 0, 0, 1);
    }

    static int[] words(int... words) {
        return words;
    }

    static WideMachine with(int width, int at, int... words) {
        WideMachine x = new WideMachine();
        x.width(width);
        fill(x, at, words);
        x.set(8, at);
        return x;
    }

    static void fill(WideMachine x, int at, int... words) {
        for (int k = 0; k < words.length; k++) {
            x.put(at + k, words[k]);
        }
    }

    static void runAt(WideMachine x, int at) {
        x.set(8, at);
        x.run();
    }

    /** What DIV 3, 1, 2 and the like leave in register 3. */
    static int result(int op, int a, int b, int n) {
        WideMachine x = with(2, 0, word(op, 3, 1, 2, n), STOP);
        x.set(1, a);
        x.set(2, b);
        x.set(3, 77);
        due("run of op " + op, x.run(), 0);
        return x.register(3);
    }

    static void end() {
        if (wrong > 0) {
            System.exit(1);
        }
    }
}
