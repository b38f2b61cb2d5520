import java.util.Arrays;

/** The boundary cases that the document's section "Terms" names, sentence by sentence, worked out by hand. */
public final class TermBoundaries extends Checks {
    /** Eight instructions that have nothing to do with each other but for the width, none of which ends a block. */
    private static int[] eight() {
        return words(number(1), number(2), number(3), number(4), number(5), number(6), number(7), word(ADD, 0, 0, 0, 0));
    }

    private static void registers() {
        sentence("REGISTERS 0..7");
        WideMachine x = with(2, 0, word(ADD, 7, 7, 7, 0), word(SUB, 0, 0, 7, 0), STOP);
        x.set(0, 50);
        x.set(7, 21);
        dueRun("the last and the first", x, 0, 2);
        due("register(7)", x.register(7), 42);
        due("register(0)", x.register(0), 8);
        for (int r = 1; r < 7; r++) {
            due("register(" + r + ")", x.register(r), 0);
        }
    }

    private static void numberWithItsSign() {
        sentence("n what is above (with its sign)");
        for (int n : words(0, 1, -1, 262143, -262144)) {
            due("ADDN of n " + n, result(ADDN, 0, 0, n), n);
        }
        sentence("op is bits 0 to 3, d 4 to 6, a 7 to 9, b 10 to 12");
        // Bits that an instruction has no use for are all set: they are nothing to it.
        WideMachine x = with(2, 0, word(ADD, 1, 2, 3, -1), word(ADDN, 4, 1, 7, -1), word(STOP, 7, 7, 7, -1));
        x.set(2, 30);
        x.set(3, 12);
        dueRun("bits without use", x, 0, 2);
        due("register(1)", x.register(1), 42);
        due("register(4)", x.register(4), 41);
    }

    private static void comparisons() {
        sentence("ZERO: if a is 0 to n modulo 64");
        for (int a : words(0, 1, -1, 64, 256, 65536, MIN, MAX)) {
            WideMachine x = with(2, 10, word(ZERO, 0, 5, 0, 30));
            x.set(5, a);
            dueRun("ZERO of " + a, x, 0, a == 0 ? 30 : 11);
        }
        sentence("LESS d = 1 if a < b, else 0");
        due("one less", result(LESS, 6, 7, 0), 1);
        due("same", result(LESS, 7, 7, 0), 0);
        due("one more", result(LESS, 8, 7, 0), 0);
        due("least and greatest", result(LESS, MIN, MAX, 0), 1);
        due("greatest and least", result(LESS, MAX, MIN, 0), 0);
        due("around 0", result(LESS, -1, 0, 0), 1);
        due("around 0 back", result(LESS, 0, -1, 0), 0);
    }

    private static void arithmetic() {
        sentence("all wraps");
        due("ADD above", result(ADD, MAX, 1, 0), MIN);
        due("ADD below", result(ADD, MIN, -1, 0), MAX);
        due("SUB above", result(SUB, MAX, -1, 0), MIN);
        due("SUB below", result(SUB, MIN, 1, 0), MAX);
        due("SUB of MIN", result(SUB, 0, MIN, 0), MIN);
        due("MUL", result(MUL, MAX, MAX, 0), 1);
        due("MUL of MIN by -1", result(MUL, MIN, -1, 0), MIN);
        due("MUL out", result(MUL, 65536, 65536, 0), 0);
        due("ADDN above", result(ADDN, MAX, 0, 262143), MIN + 262142);
        due("ADDN below", result(ADDN, MIN, 0, -262144), MAX - 262143);
        sentence("DIV d = a / b (towards 0; -2147483648 by -1 is itself)");
        due("MIN by -1", result(DIV, MIN, -1, 0), MIN);
        due("MIN by 1", result(DIV, MIN, 1, 0), MIN);
        due("MAX by -1", result(DIV, MAX, -1, 0), -MAX);
        due("MIN by MIN", result(DIV, MIN, MIN, 0), 1);
        due("MAX by MIN", result(DIV, MAX, MIN, 0), 0);
        due("0 by 5", result(DIV, 0, 5, 0), 0);
        due("-1 by 2", result(DIV, -1, 2, 0), 0);
        due("1 by -2", result(DIV, 1, -2, 0), 0);
        due("-8 by 3", result(DIV, -8, 3, 0), -2);
        due("8 by -3", result(DIV, 8, -3, 0), -2);
        due("-8 by -3", result(DIV, -8, -3, 0), 2);
        sentence("AND d = a and b (by bits), XOR d = a xor b");
        due("AND with MIN", result(AND, -1, MIN, 0), MIN);
        due("AND of MIN and MAX", result(AND, MIN, MAX, 0), 0);
        due("XOR of MIN and MAX", result(XOR, MIN, MAX, 0), -1);
        due("XOR of the same", result(XOR, -5, -5, 0), 0);
    }

    private static void addressFault(int op, int a, int n) {
        String what = "op " + op + " at " + a + " + " + n;
        WideMachine x = with(2, 20, word(op, 1, 2, 3, n), STOP);
        runAt(x, 0);
        runAt(x, 63);
        x.set(1, 55);
        x.set(2, a);
        x.set(3, 66);
        x.set(8, 20);
        dueRun(what, x, 1, 20);
        due(what + ": register(1)", x.register(1), 55);
        for (int at : words(0, 1, 62, 63)) {
            due(what + ": word(" + at + ")", x.word(at), 0);
        }
        dueKept(what, x, 20, 63, 0);
        due(what + ": taken(5)", x.taken(5), 2);
    }

    private static void addresses() {
        sentence("ADDRESS, LOAD and STORE at what is not 0..63");
        for (int op : words(LOAD, STORE)) {
            addressFault(op, -1, 0);
            addressFault(op, 64, 0);
            addressFault(op, 0, -1);
            addressFault(op, 0, 64);
            addressFault(op, 63, 1);
            addressFault(op, 127, 0);
            addressFault(op, MIN, 0);
            addressFault(op, MAX, 0);
            addressFault(op, MAX, 1);
            addressFault(op, MIN, -1);
            addressFault(op, 0, 262143);
            addressFault(op, 0, -262144);
        }
        for (int at : words(0, 63)) {
            for (int n : words(0, 5, -70, 262143, -262144)) {
                WideMachine x = with(2, 20, word(LOAD, 1, 2, 0, n), word(STORE, 0, 2, 3, n), STOP);
                x.put(at, 1234);
                x.set(2, at - n);
                x.set(3, 4321);
                dueRun("word " + at + " by n " + n, x, 0, 22);
                due("word " + at + " by n " + n + ": register(1)", x.register(1), 1234);
                due("word " + at + " by n " + n + ": word", x.word(at), 4321);
            }
        }
    }

    private static void divisionsAndIllegals() {
        sentence("2 DIVISION by 0");
        for (int a : words(0, 1, -1, MIN, MAX)) {
            WideMachine x = with(2, 20, word(DIV, 1, 2, 3, 0), STOP);
            x.set(1, 55);
            x.set(2, a);
            dueRun(a + " by 0", x, 2, 20);
            due(a + " by 0: register(1)", x.register(1), 55);
        }
        // A divisor that the block itself makes 0, or no longer 0.
        WideMachine x = with(2, 20, word(SUB, 3, 3, 3, 0), word(DIV, 1, 2, 3, 0), STOP);
        x.set(3, 5);
        dueRun("made 0", x, 2, 21);
        x = with(2, 20, number(3), word(DIV, 1, 2, 3, 0), STOP);
        x.set(2, 7);
        dueRun("made 1", x, 0, 22);
        due("made 1: register(1)", x.register(1), 7);
        sentence("3 ILLEGAL, op 14 or 15");
        for (int op = 0; op < 16; op++) {
            x = with(2, 20, word(op, 1, 2, 3, 30), STOP);
            x.set(3, 1);
            due("op " + op, x.run(), op == 14 || op == 15 ? 3 : 0);
        }
        x = with(2, 63, -1);
        dueRun("all bits", x, 3, 63);
        dueTaken("all bits", x, 3 + 1, 3, 1, 0, 1, 0);
    }

    private static void faultingDoesNothing() {
        sentence("A faulting instruction does nothing");
        WideMachine x = with(2, 20, word(LOAD, 2, 2, 0, 0), STOP);
        x.set(2, 64);
        dueRun("LOAD into its own a", x, 1, 20);
        due("LOAD into its own a: register(2)", x.register(2), 64);
        x = with(2, 20, word(DIV, 3, 3, 3, 0), STOP);
        dueRun("0 by 0 into itself", x, 2, 20);
        due("0 by 0 into itself: register(3)", x.register(3), 0);
        for (int op = 14; op < 16; op++) {
            x = with(2, 20, word(op, 1, 2, 3, 30), STOP);
            x.set(1, 55);
            dueRun("op " + op, x, 3, 20);
            due("op " + op + ": register(1)", x.register(1), 55);
            due("op " + op + ": taken(5)", x.taken(5), 0);
        }
    }

    private static void blockEnds() {
        sentence("ends with the first JUMP, ZERO, STOP or ILLEGAL");
        for (int op = 0; op < 16; op++) {
            boolean ends = op == STOP || op == JUMP || op == ZERO || op == 14 || op == 15;
            WideMachine x = with(2, 10, number(1), word(op, 1, 1, 1, 40), number(2), word(JUMP, 0, 0, 0, 0));
            due("op " + op + " second: block(10, 0)", x.block(10, 0), ends ? 2 : 4);
            due("op " + op + " first: block(11, 0)", x.block(11, 0), ends ? 1 : 3);
            fill(x, 10, eight());
            x.put(17, word(op, 1, 1, 1, 40));
            due("op " + op + " eighth: block(10, 0)", x.block(10, 0), 8);
        }
        sentence("or behind its eighth instruction");
        WideMachine x = with(2, 10, eight());
        x.put(18, number(1));
        for (int start = 10; start < 14; start++) {
            due("nine and STOP: block(" + start + ", 0)", x.block(start, 0), start < 12 ? 8 : 20 - start);
        }
        due("nine and STOP: cycle(10, 7)", x.cycle(10, 7), 4);
        due("nine and STOP: cycle(10, 8)", x.cycle(10, 8), -1);
        dueRun("nine and STOP", x, 0, 19);
        dueTaken("nine and STOP", x, 24 + 4 + 6 + 1, 30, 2, 0, 2, 10);
        dueKept("nine and STOP", x, 18, 10);
        // The word behind the eighth is not the block's, the eighth is.
        x.put(18, STOP);
        dueKept("behind the eighth", x, 10);
        x.put(17, number(1));
        dueKept("the eighth", x);
        sentence("or word 63");
        x = new WideMachine();
        for (int at = 0; at < 64; at++) {
            x.put(at, number(1));
        }
        for (int start = 54; start < 64; start++) {
            due("block(" + start + ", 0)", x.block(start, 0), start < 57 ? 8 : 64 - start);
        }
        due("cycle(63, 0)", x.cycle(63, 0), 1);
        due("cycle(63, 1)", x.cycle(63, 1), -1);
    }

    private static void behindTheBlock() {
        sentence("Behind it the PC is the word behind (0 behind 63), if there is no jump");
        WideMachine x = with(4, 5, eight());
        dueRun("behind the eighth", x, 0, 13);
        x = with(4, 56, eight());
        x.put(0, word(JUMP, 0, 0, 0, 9));
        dueRun("eight up to 63", x, 0, 9);
        dueKept("eight up to 63", x, 9, 0, 56);
        x = with(4, 55, eight());
        dueRun("eight up to 62", x, 0, 63);
        dueKept("eight up to 62", x, 63, 55);
        x = with(4, 61, number(1), word(ZERO, 0, 1, 0, 9));
        dueRun("ZERO of 1 at 62", x, 0, 63);
        x = with(4, 62, word(STORE, 0, 0, 0, 63), number(1));
        dueRun("STORE at 62 to 63", x, 0, 63);
        due("STORE at 62 to 63: register(1)", x.register(1), 0);
        x = with(4, 63, number(1));
        dueRun("63 alone", x, 0, 0);
        dueKept("63 alone", x, 0, 63);
        x = with(4, 62, number(1), word(ZERO, 0, 1, 0, 9));
        dueRun("ZERO of 1 at 63", x, 0, 0);
        x = with(4, 62, number(1), word(ZERO, 0, 2, 0, 9));
        dueRun("ZERO of 0 at 63", x, 0, 9);
        x = with(4, 63, word(JUMP, 0, 0, 0, 62), number(1));
        x.put(62, STOP);
        dueRun("JUMP at 63", x, 0, 62);
        x = with(4, 62, word(STORE, 0, 0, 0, 40), word(STORE, 0, 0, 0, 41));
        dueRun("STORE at 63", x, 0, 0);
        sentence("after STOP it is the STOP's");
        x = with(4, 63, STOP);
        dueRun("STOP at 63", x, 0, 63);
        x = with(4, 60, number(1), STOP, number(2));
        dueRun("STOP within", x, 0, 61);
        dueRun("STOP again", x, 0, 61);
        due("STOP again: register(2)", x.register(2), 0);
        dueKept("STOP again", x, 61, 60);
        x = with(4, 0, STOP);
        dueRun("STOP at 0", x, 0, 0);
    }

    private static boolean isOneOf(int op, int... ops) {
        return Arrays.stream(ops).anyMatch(one -> one == op);
    }

    private static void operands() {
        sentence("a register that it reads, one that it writes");
        int[] latency = {1, 1, 1, 3, 1, 2, 1, 1, 1, 1, 1, 1, 1, 4, 1, 1};
        for (int r : words(0, 1, 7)) {
            int slow = word(DIV, r, 4, 4, 0);
            for (int op = 0; op < 16; op++) {
                boolean usesA = !isOneOf(op, STOP, JUMP, 14, 15);
                boolean usesB = isOneOf(op, ADD, SUB, MUL, STORE, LESS, AND, XOR, DIV);
                boolean usesD = !isOneOf(op, STOP, STORE, JUMP, ZERO, 14, 15);
                int free = isOneOf(op, MUL, DIV) ? 2 : 1;
                String what = "op " + op + " with register " + r;
                dueCycles(what + " as a", 4, words(slow, word(op, 3, r, 5, 0)), 1, usesA ? 5 : free);
                dueCycles(what + " as b", 4, words(slow, word(op, 3, 5, r, 0)), 1, usesB ? 5 : free);
                dueCycles(what + " as d", 4, words(slow, word(op, r, 5, 5, 0)), 1, usesD && op != DIV ? 6 - latency[op] : free);
                if (usesD || op == STORE) {
                    int late = word(op, 3, 2, r, 0);
                    dueCycles(what + " as b, written behind it", 4,
                        words(word(MUL, 2, 6, 6, 0), late, word(ADDN, r, 6, 0, 1)), 1, 4, usesB ? 4 : 1);
                }
            }
        }
    }

    private static void latencies() {
        sentence("each the least one from 1 on");
        for (int op = 0; op < 16; op++) {
            dueCycles("op " + op + " alone", 1, words(word(op, 1, 2, 3, 4)), 1);
        }
        sentence("not before that one's cycle plus its LATENCY (LOAD 2, MUL 3, DIV 4, all others 1)");
        int[] latency = {1, 1, 1, 3, 1, 2, 1, 1, 1, 1, 1, 1, 1, 4, 1, 1};
        for (int op : words(ADD, SUB, MUL, ADDN, LOAD, LESS, AND, XOR, SHIFT, DIV)) {
            dueCycles("read behind op " + op, 4, words(word(op, 1, 2, 3, 0), word(ADDN, 4, 1, 0, 0)), 1, 1 + latency[op]);
            dueCycles("ZERO behind op " + op, 4, words(word(op, 1, 2, 3, 0), word(ZERO, 0, 1, 0, 0)), 1, 1 + latency[op]);
            dueCycles("d read by itself, op " + op, 4, words(word(op, 1, 1, 1, 0), STOP), 1, 1);
        }
        // Eight that wait for each other are the longest there is.
        int[] chain = new int[8];
        Arrays.fill(chain, word(DIV, 1, 1, 1, 0));
        for (int width = 1; width <= 4; width++) {
            dueCycles("eight DIVs", width, chain, 1, 5, 9, 13, 17, 21, 25, 29, -1);
            due("eight DIVs: block(0, 1)", with(width, 0, chain).block(0, 1), 32);
        }
        sentence("a register that it reads and an earlier one wrote last");
        dueCycles("a slow and a fast writer", 4,
            words(word(DIV, 1, 2, 2, 0), word(LOAD, 1, 2, 0, 0), number(1), word(ADDN, 3, 1, 0, 0)), 1, 4, 6, 7);
        dueCycles("a fast and a slow writer", 4,
            words(number(1), word(DIV, 1, 2, 2, 0), word(ADDN, 3, 1, 0, 0)), 1, 1, 5);
    }

    private static void writers() {
        sentence("not so early that its cycle plus its latency is not above that one's");
        int[] ops = words(ADDN, LOAD, MUL, DIV);
        // By rows: the later one's cycle behind ADDN, LOAD, MUL and DIV; MUL and DIV have but one unit.
        int[][] later = {{2, 3, 4, 5}, {1, 2, 3, 4}, {1, 1, 2, 3}, {1, 1, 2, 2}};
        for (int second = 0; second < 4; second++) {
            for (int first = 0; first < 4; first++) {
                dueCycles("op " + ops[second] + " behind op " + ops[first], 4,
                    words(word(ops[first], 1, 2, 3, 0), word(ops[second], 1, 4, 5, 0)), 1, later[second][first]);
            }
        }
        sentence("one that it writes and an earlier one reads: not before that one's cycle");
        int slow = word(MUL, 1, 0, 0, 0);
        dueCycles("the same cycle", 2, words(slow, word(ADD, 2, 1, 3, 0), number(3)), 1, 4, 4);
        dueCycles("no room in it", 1, words(slow, word(ADD, 2, 1, 3, 0), number(3)), 1, 4, 5);
        dueCycles("the latest of two", 4,
            words(slow, word(ADD, 2, 3, 3, 0), word(ADD, 4, 1, 3, 0), word(ADD, 5, 3, 3, 0), number(3)), 1, 1, 4, 1, 4);
        dueCycles("a STORE reads what it stores", 4, words(slow, word(STORE, 0, 1, 3, 0), word(MUL, 3, 0, 0, 0)), 1, 4, 4);
    }

    private static void memoryOrder() {
        int slow = word(MUL, 1, 0, 0, 0);
        int lateLoad = word(LOAD, 2, 1, 0, 0);
        int lateStore = word(STORE, 0, 1, 0, 0);
        int load = word(LOAD, 3, 0, 0, 40);
        int store = word(STORE, 0, 0, 0, 40);
        sentence("a LOAD: behind the cycles of all earlier STOREs");
        dueCycles("behind one", 4, words(slow, lateStore, load), 1, 4, 5);
        dueCycles("behind the later of two", 4, words(store, slow, lateStore, load), 1, 1, 4, 5);
        dueCycles("not behind LOADs", 4, words(slow, lateLoad, load), 1, 4, 1);
        sentence("a STORE: behind those of all earlier LOADs and STOREs");
        dueCycles("behind a LOAD", 4, words(slow, lateLoad, store), 1, 4, 5);
        dueCycles("behind a STORE", 4, words(slow, lateStore, store), 1, 4, 5);
        dueCycles("behind a LOAD that is not the last one", 4, words(slow, lateLoad, load, store), 1, 4, 1, 5);
        dueCycles("behind no other", 4, words(slow, word(ADDN, 2, 1, 0, 0), store), 1, 4, 1);
        // It needs not wait for what a LOAD brings, unless it is told to.
        dueCycles("not behind a LOAD's latency", 4, words(load, store), 1, 2);
        sentence("one LOAD or STORE");
        dueCycles("LOADs alone", 4, words(load, word(LOAD, 4, 0, 0, 0), word(LOAD, 5, 0, 0, 0)), 1, 2, 3);
        dueCycles("a gap for a LOAD", 4,
            words(slow, load, lateLoad, word(LOAD, 4, 0, 0, 0), word(LOAD, 5, 0, 0, 0), word(LOAD, 6, 0, 0, 0)),
            1, 1, 4, 2, 3, 5);
        sentence("and one MUL or DIV");
        dueCycles("MULs and DIVs", 4,
            words(slow, word(DIV, 2, 0, 0, 0), word(MUL, 3, 0, 0, 0), word(DIV, 4, 0, 0, 0)), 1, 2, 3, 4);
        dueCycles("one of each unit", 2, words(load, slow, number(4)), 1, 1, 2);
    }

    private static void ends() {
        sentence("the block's JUMP, ZERO, STOP or ILLEGAL: not before any other one's cycle");
        for (int op : words(STOP, JUMP, ZERO, 14, 15)) {
            int[] late = words(word(MUL, 1, 2, 2, 0), word(ADDN, 3, 1, 0, 0), word(ADDN, 4, 2, 0, 0), op);
            dueCycles("op " + op, 4, late, 1, 4, 1, 4, -1);
            dueCycles("op " + op, 2, late, 1, 4, 1, 4, -1);
            dueCycles("op " + op, 1, late, 1, 4, 2, 5, -1);
            due("op " + op + ": block(0, 1)", with(1, 0, late).block(0, 1), 5);
        }
    }

    private static void widths() {
        sentence("there are at most WIDTH instructions in a cycle");
        int[][] cycles = {{1, 2, 3, 4, 5, 6, 7, 8}, {1, 1, 2, 2, 3, 3, 4, 4}, {1, 1, 1, 2, 2, 2, 3, 3}, {1, 1, 1, 1, 2, 2, 2, 2}};
        for (int width = 1; width <= 4; width++) {
            dueCycles("eight", width, eight(), cycles[width - 1]);
        }
        int[] four = words(number(1), number(2), number(3), STOP);
        dueCycles("three and STOP", 4, four, 1, 1, 1, 1);
        dueCycles("three and STOP", 3, four, 1, 1, 1, 2);
    }

    private static void times() {
        sentence("The block's TIME is the greatest, over its instructions, of cycle plus latency, less 1");
        int[] latency = {1, 1, 1, 3, 1, 2, 1, 1, 1, 1, 1, 1, 1, 4, 1, 1};
        for (int op = 0; op < 16; op++) {
            WideMachine x = with(2, 63, word(op, 1, 2, 3, 4));
            due("op " + op + " alone: block(63, 1)", x.block(63, 1), latency[op]);
        }
        due("the first lasts longest", with(4, 0, word(DIV, 1, 0, 0, 0), number(2), STOP).block(0, 1), 4);
        due("one between", with(1, 0, number(2), word(DIV, 1, 0, 0, 0), number(3), STOP).block(0, 1), 5);
        due("the last one", with(1, 0, number(2), number(3), STOP).block(0, 1), 3);
        due("as long as the end", with(1, 0, word(MUL, 1, 0, 0, 0), number(3), STOP).block(0, 1), 3);
    }

    private static void keeping() {
        sentence("at most 4 blocks are KEPT, by their beginnings");
        WideMachine x = new WideMachine();
        int[][] kept = {{0}, {1, 0}, {2, 1, 0}, {3, 2, 1, 0}, {4, 3, 2, 1}, {5, 4, 3, 2}};
        for (int at = 0; at < 6; at++) {
            runAt(x, at);
            dueKept("begun up to " + at, x, kept[at]);
        }
        // Two beginnings in the same words are two blocks.
        x = with(2, 40, number(1), number(2), STOP);
        runAt(x, 40);
        runAt(x, 41);
        runAt(x, 42);
        dueKept("one within the other", x, 42, 41, 40);
        dueTaken("one within the other", x, 9 + 2 + 6 + 1 + 3 + 1, 18, 3, 0, 3, 6);
        sentence("it is MADE: that takes 3 for each of its instructions");
        for (int count = 1; count <= 8; count++) {
            x = with(1, 20, eight());
            x.put(20 + count - 1, STOP);
            dueRun(count + " instructions", x, 0, 20 + count - 1);
            dueTaken(count + " instructions", x, 3 * count + count, 3 * count, 1, 0, 1, count);
            runAt(x, 20);
            dueTaken(count + " instructions again", x, 5 * count, 3 * count, 1, 1, 2, 2 * count);
        }
        sentence("the one that was begun longest ago is kept no more (of each its last beginning counts)");
        x = new WideMachine();
        for (int at : words(10, 20, 30, 40, 10)) {
            runAt(x, at);
        }
        dueKept("full", x, 10, 40, 30, 20);
        runAt(x, 50);
        dueKept("the made first, begun again, stays", x, 50, 10, 40, 30);
        runAt(x, 50);
        dueKept("begun again at once", x, 50, 10, 40, 30);
        runAt(x, 30);
        runAt(x, 60);
        dueKept("the oldest begun again stays", x, 60, 30, 50, 10);
        dueTaken("nine begun", x, 6 * 3 + 9, 18, 6, 3, 9, 9);
        // A full list does not lose one to a block that is kept.
        runAt(x, 10);
        dueKept("no one goes", x, 10, 60, 30, 50);
    }

    private static void changes() {
        sentence("When a word changes by a STORE (also to the same value) or put, all kept blocks with that word");
        for (int way = 0; way < 3; way++) {
            for (int at = 19; at <= 24; at++) {
                // Kept: 20 to 23, 22 to 23, and 50, that holds the STORE.
                WideMachine x = with(2, 20, number(1), number(2), number(3), STOP);
                fill(x, 50, word(STORE, 0, 6, 7, 0), STOP);
                runAt(x, 20);
                runAt(x, 22);
                x.set(6, at);
                x.set(7, way == 0 ? x.word(at) : 77);
                String what = (way == 2 ? "put to " : "STORE to ") + at;
                if (way == 2) {
                    x.put(at, 77);
                } else {
                    runAt(x, 50);
                }
                due(what + ": block(20, 2)", x.block(20, 2), at < 20 || at > 23 ? 1 : 0);
                due(what + ": block(22, 2)", x.block(22, 2), at < 22 || at > 23 ? 1 : 0);
                due(what + ": block(50, 2)", x.block(50, 2), way == 2 ? 0 : 1);
            }
        }
        // All four can go at once.
        WideMachine x = with(2, 60, number(1), number(2), number(3), STOP);
        for (int at = 60; at < 64; at++) {
            runAt(x, at);
        }
        dueKept("four with word 63", x, 63, 62, 61, 60);
        x.put(63, STOP);
        dueKept("put to word 63", x);
        for (int at = 60; at < 64; at++) {
            runAt(x, at);
        }
        fill(x, 40, word(STORE, 0, 0, 0, 63), STOP);
        runAt(x, 40);
        dueKept("STORE to word 63", x, 40);
        due("STORE to word 63: flush()", x.flush(), 1);
    }

    private static void storesBehind() {
        sentence("the word stands behind the STORE, the block ends behind the STORE, and has taken the STORE's cycle");
        // Words 10 to 14, a STORE at 12: cycles 1, 2, 3, 4, 5 at width 1.
        for (int at = 9; at <= 15; at++) {
            boolean cut = at == 13 || at == 14;
            WideMachine x = with(1, 10, number(1), number(2), word(STORE, 0, 6, 7, 0), number(3), STOP);
            x.set(6, at);
            x.set(7, x.word(at));
            String what = "STORE from 12 to " + at;
            dueRun(what, x, 0, 14);
            dueTaken(what, x, cut ? 15 + 3 + 6 + 2 : 15 + 5, cut ? 21 : 15, cut ? 2 : 1, 0, cut ? 2 : 1, 5);
            if (cut) {
                dueKept(what, x, 13);
            } else if (at >= 10 && at <= 12) {
                dueKept(what, x);
            } else {
                dueKept(what, x, 10);
            }
        }
        // A slow one before the STORE is done, but its time is not waited for; a later one in an earlier cycle is not done.
        WideMachine x = with(4, 10, word(DIV, 1, 2, 3, 0), word(STORE, 0, 6, 7, 13), number(4), STOP);
        x.set(2, 42);
        x.set(3, 6);
        x.set(7, word(JUMP, 0, 0, 0, 20));
        dueRun("a slow one before", x, 0, 20);
        due("a slow one before: register(1)", x.register(1), 7);
        due("a slow one before: register(4)", x.register(4), 1);
        // 10: 12 + 1, 12: 6 + 1, 20: 3 + 1
        dueTaken("a slow one before", x, 24, 21, 3, 0, 3, 2 + 2 + 1);
        dueKept("a slow one before", x, 20, 12);
        // Word 0 comes after word 63, but does not stand behind it in a block.
        x = with(2, 63, word(STORE, 0, 0, 7, 0));
        x.set(7, word(JUMP, 0, 0, 0, 30));
        dueRun("from 63 to 0", x, 0, 30);
        dueKept("from 63 to 0", x, 30, 0, 63);
        // The eighth instruction, by the first.
        x = with(1, 10, eight());
        x.put(10, word(STORE, 0, 6, 7, 17));
        dueRun("first to eighth", x, 0, 17);
        dueTaken("first to eighth", x, 24 + 1 + 21 + 7, 45, 2, 0, 2, 1 + 7);
        dueKept("first to eighth", x, 11);
        // The ninth word is not the block's.
        x = with(1, 10, eight());
        x.put(10, word(STORE, 0, 6, 7, 18));
        dueRun("first to ninth", x, 0, 18);
        dueTaken("first to ninth", x, 24 + 8 + 3 + 1, 27, 2, 0, 2, 8 + 1);
        dueKept("first to ninth", x, 18, 10);
    }

    private static void faultsInBlocks() {
        sentence("If an instruction faults all is as behind the one before it, the PC is its word, the block ends");
        WideMachine x = with(4, 10, word(LOAD, 1, 2, 0, 64), number(3), STOP);
        dueRun("the first one", x, 1, 10);
        dueTaken("the first one", x, 9 + 1, 9, 1, 0, 1, 0);
        due("the first one: register(3)", x.register(3), 0);
        x = with(1, 10, eight());
        x.put(17, word(DIV, 1, 1, 0, 0));
        dueRun("the eighth", x, 2, 17);
        dueTaken("the eighth", x, 24 + 8, 24, 1, 0, 1, 7);
        due("the eighth: register(1)", x.register(1), 1);
        x = with(1, 62, number(1), word(STORE, 0, 0, 1, 64));
        dueRun("word 63", x, 1, 63);
        dueTaken("word 63", x, 6 + 2, 6, 1, 0, 1, 1);
        // A later one in an earlier cycle has not been done, an earlier one in a later cycle has.
        x = with(4, 10, word(MUL, 1, 2, 2, 0), word(STORE, 0, 1, 2, 0), number(3), STOP);
        x.set(2, 8);
        dueRun("a later one", x, 1, 11);
        due("a later one: register(1)", x.register(1), 64);
        due("a later one: register(3)", x.register(3), 0);
        dueTaken("a later one", x, 12 + 4, 12, 1, 0, 1, 1);
        x = with(4, 10, word(MUL, 1, 2, 2, 0), word(STORE, 0, 1, 2, 0), word(DIV, 4, 2, 0, 0), STOP);
        x.set(2, 7);
        dueRun("an earlier one", x, 2, 12);
        due("an earlier one: word(49)", x.word(49), 7);
        dueTaken("an earlier one", x, 12 + 2, 12, 1, 0, 1, 2);
        sentence("and has taken the cycle of the instruction that faults");
        // Kept before: nothing is made, and the cycle alone is taken, each time anew.
        x = with(4, 10, word(MUL, 1, 2, 2, 0), word(ADDN, 3, 1, 0, 0), word(DIV, 4, 3, 5, 0), STOP);
        for (int n = 1; n <= 3; n++) {
            x.set(8, 10);
            dueRun("time " + n, x, 2, 12);
            dueTaken("time " + n, x, 12 + 5 * n, 12, 1, n - 1, n, 2 * n);
            dueKept("time " + n, x, 10);
        }
        // From the fault on, once its cause is gone.
        x.set(5, 1);
        dueRun("from the fault on", x, 0, 13);
        dueTaken("from the fault on", x, 27 + 6 + 4, 18, 2, 2, 4, 6 + 2);
        dueKept("from the fault on", x, 12, 10);
        for (int op = 14; op < 16; op++) {
            x = with(1, 10, word(DIV, 1, 2, 3, 0), op);
            x.set(3, 1);
            dueRun("op " + op, x, 3, 11);
            dueTaken("op " + op, x, 6 + 2, 6, 1, 0, 1, 1);
        }
    }

    public static void main(String[] args) {
        registers();
        numberWithItsSign();
        comparisons();
        arithmetic();
        addresses();
        divisionsAndIllegals();
        faultingDoesNothing();
        blockEnds();
        behindTheBlock();
        operands();
        latencies();
        writers();
        memoryOrder();
        ends();
        widths();
        times();
        keeping();
        changes();
        storesBehind();
        faultsInBlocks();
        end();
    }
}
