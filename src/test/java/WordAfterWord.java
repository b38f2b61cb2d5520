/**
 * The document's first sentence, "run so that everything is as if word came after word", without any notion of
 * blocks: a machine that knows one word at a time must come to the same state, and so must one that does a
 * block's instructions in the cycles they were put into, each result standing only when its latency is over.
 * The programs come from a counter, so that every run of this test is the same.
 */
public final class WordAfterWord extends Checks {
    private static final int PROGRAMS = 20000;

    private static long seed;

    private static int some(int bound) {
        seed = seed * 6364136223846793005L + 1442695040888963407L;
        return (int) Long.remainderUnsigned(seed >>> 33, bound);
    }

    private static int opOf(int word) {
        return word & 15;
    }

    private static int dOf(int word) {
        return word >>> 4 & 7;
    }

    private static int aOf(int word) {
        return word >>> 7 & 7;
    }

    private static int bOf(int word) {
        return word >>> 10 & 7;
    }

    private static int nOf(int word) {
        return Math.floorDiv(word, 8192);
    }

    private static int result(int word, int a, int b) {
        switch (opOf(word)) {
            case ADD: return a + b;
            case SUB: return a - b;
            case MUL: return a * b;
            case ADDN: return a + nOf(word);
            case LESS: return a < b ? 1 : 0;
            case AND: return a & b;
            case XOR: return a ^ b;
            case SHIFT: return a << Math.floorMod(nOf(word), 32);
            default: return (int) ((long) a / b);
        }
    }

    private static final int[] registers = new int[8];
    private static final int[] words = new int[64];
    private static int pc;

    private static int faultAt(int at) {
        int word = words[at];
        long target = registers[aOf(word)] + nOf(word);
        if (opOf(word) == LOAD || opOf(word) == STORE) {
            return target < 0 || target > 63 ? 1 : 0;
        }
        if (opOf(word) == DIV) {
            return registers[bOf(word)] == 0 ? 2 : 0;
        }
        return opOf(word) > DIV ? 3 : 0;
    }

    private static void step() {
        int word = words[pc];
        int a = registers[aOf(word)];
        int b = registers[bOf(word)];
        int next = (pc + 1) % 64;
        switch (opOf(word)) {
            case STOP -> next = pc;
            case JUMP -> next = Math.floorMod(nOf(word), 64);
            case ZERO -> next = a == 0 ? Math.floorMod(nOf(word), 64) : next;
            case LOAD -> registers[dOf(word)] = words[a + nOf(word)];
            case STORE -> words[a + nOf(word)] = b;
            default -> registers[dOf(word)] = result(word, a, b);
        }
        pc = next;
    }

    private static int someWord(int span) {
        int[] ops = {ADD, SUB, MUL, ADDN, ADDN, LOAD, LOAD, STORE, STORE, STORE, JUMP, ZERO, LESS, AND, XOR, SHIFT, DIV, STOP, 14};
        int n = some(8) == 0 ? some(200) - 100 : some(span);
        return word(ops[some(ops.length)], some(8), some(2) * some(8), some(8), n);
    }

    private static WideMachine fresh(int span) {
        WideMachine x = new WideMachine();
        for (int at = 0; at < 64; at++) {
            words[at] = at < span ? someWord(span) : 0;
            x.put(at, words[at]);
        }
        for (int r = 0; r < 8; r++) {
            registers[r] = some(3) == 0 ? someWord(span) : some(span);
            x.set(r, registers[r]);
        }
        pc = 0;
        x.width(1 + some(4));
        return x;
    }

    private static void dueState(String what, WideMachine x) {
        for (int r = 0; r < 8; r++) {
            due(what + ": register(" + r + ")", x.register(r), registers[r]);
        }
        for (int at = 0; at < 64; at++) {
            due(what + ": word(" + at + ")", x.word(at), words[at]);
        }
    }

    /** Runs a program that also writes into itself, then as many single words as it says it has done. */
    private static void wordByWord(int program) {
        String what = "program " + program;
        seed = program;
        WideMachine x = fresh(8 + 8 * some(8));
        for (int n = 0; n < 3; n++) {
            int before = x.taken(5);
            int end = x.run();
            int last = STOP;
            for (int done = before; done < x.taken(5); done++) {
                due(what + ": no fault at " + pc, faultAt(pc), 0);
                if (faultAt(pc) != 0) {
                    return;
                }
                last = opOf(words[pc]);
                due(what + ": STOP before its end", last == STOP && done + 1 < x.taken(5), false);
                step();
            }
            if (end == 0) {
                due(what + ": the last one done", last, STOP);
            } else if (end != 4) {
                due(what + ": the fault", end, faultAt(pc));
            }
            due(what + ": register(8)", x.register(8), pc);
            dueState(what, x);
            pc = some(64);
            x.set(8, pc);
        }
    }

    /** Eight instructions that can't fault: register 7 is an address and register 6 a divisor, and both stay. */
    private static WideMachine plainBlock() {
        int[] ops = {ADD, SUB, MUL, ADDN, LOAD, STORE, LESS, AND, XOR, SHIFT, DIV};
        WideMachine x = fresh(8);
        for (int at = 0; at < 8; at++) {
            int op = ops[some(ops.length)];
            int a = op == LOAD || op == STORE ? 7 : some(8);
            words[at] = word(op, some(6), a, op == DIV ? 6 : some(8), some(4));
            x.put(at, words[at]);
        }
        for (int at = 40; at < 44; at++) {
            words[at] = 16 * some(1000);
            x.put(at, words[at]);
        }
        registers[6] = 3;
        registers[7] = 40;
        x.set(6, 3);
        x.set(7, 40);
        return x;
    }

    private static int latency(int op) {
        return op == LOAD ? 2 : op == MUL ? 3 : op == DIV ? 4 : 1;
    }

    /** What is in one cycle is read at its beginning; a result stands from its cycle plus its latency on. */
    private static void cycleByCycle(int program) {
        String what = "block " + program;
        seed = program;
        WideMachine x = plainBlock();
        int[] results = new int[8];
        int time = x.block(0, 1);
        for (int now = 1; now <= time + 1; now++) {
            for (int k = 0; k < 8; k++) {
                int op = opOf(words[k]);
                if (op != STORE && x.cycle(0, k) + latency(op) == now) {
                    registers[dOf(words[k])] = results[k];
                }
            }
            for (int k = 0; k < 8; k++) {
                if (x.cycle(0, k) == now) {
                    int a = registers[aOf(words[k])];
                    int b = registers[bOf(words[k])];
                    switch (opOf(words[k])) {
                        case LOAD -> results[k] = words[a + nOf(words[k])];
                        case STORE -> words[a + nOf(words[k])] = b;
                        default -> results[k] = result(words[k], a, b);
                    }
                }
            }
        }
        due(what + ": run()", x.run(), 0);
        due(what + ": taken(0)", x.taken(0), 24 + time + 3 + 1);
        dueState(what, x);
    }

    public static void main(String[] args) {
        sentence("run so that everything is as if word came after word");
        for (int program = 0; program < PROGRAMS; program++) {
            wordByWord(program);
        }
        sentence("blocks of words are put into cycles");
        for (int program = 0; program < PROGRAMS; program++) {
            cycleByCycle(program);
        }
        end();
    }
}
