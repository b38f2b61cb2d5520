/** One method for each promise; every answer that is due was worked out by hand from the document. */
public final class PromiseTests extends Checks {
    private static void promise1() {
        due("OK", WideMachine.OK, 0);
        due("ADDRESS", WideMachine.ADDRESS, 1);
        due("DIVISION", WideMachine.DIVISION, 2);
        due("ILLEGAL", WideMachine.ILLEGAL, 3);
        due("LONG", WideMachine.LONG, 4);
        due("NONE", WideMachine.NONE, -1);
        WideMachine used = with(4, 5, number(1), STOP);
        used.run();
        WideMachine x = new WideMachine();
        for (int r = 0; r <= 8; r++) {
            due("new: register(" + r + ")", x.register(r), 0);
        }
        for (int at = 0; at < 64; at++) {
            due("new: word(" + at + ")", x.word(at), 0);
            due("new: block(" + at + ", 2)", x.block(at, 2), 0);
        }
        dueKept("new", x);
        dueTaken("new", x, 0, 0, 0, 0, 0, 0);
        fill(x, 0, number(1), number(2), number(3));
        due("new, width 2: cycle(0, 1)", x.cycle(0, 1), 1);
        due("new, width 2: cycle(0, 2)", x.cycle(0, 2), 2);
        due("used: register(1)", used.register(1), 1);
        due("used: kept(0)", used.kept(0), 5);
    }

    private static void promise2() {
        WideMachine x = new WideMachine();
        due("put(0, MIN)", x.put(0, MIN), true);
        due("put(63, MAX)", x.put(63, MAX), true);
        due("put(7, -5)", x.put(7, -5), true);
        due("word(0)", x.word(0), MIN);
        due("word(63)", x.word(63), MAX);
        due("word(7)", x.word(7), -5);
        due("word(8)", x.word(8), 0);
        due("put(7, 6)", x.put(7, 6), true);
        due("word(7) again", x.word(7), 6);
        for (int at : new int[] {-1, 64, 71, -57, MIN, MAX}) {
            due("put(" + at + ", 9)", x.put(at, 9), false);
        }
        for (int at = 1; at < 63; at++) {
            due("after wrong puts: word(" + at + ")", x.word(at), at == 7 ? 6 : 0);
        }
        WideMachine y = with(2, 10, number(1), number(2), STOP);
        y.run();
        y.put(9, 1);
        y.put(13, 1);
        y.put(74, 1);
        dueKept("puts beside the block", y, 10);
        y.put(12, 1);
        dueKept("put to its last word", y);
        y.put(12, STOP);
        y.set(8, 10);
        y.run();
        y.put(10, 1);
        dueKept("put to its first word", y);
    }

    private static void promise3() {
        WideMachine x = new WideMachine();
        due("code(4, 1, 2, 3, 5)", x.code(4, 1, 2, 3, 5), 44308);
        due("code(0, 0, 0, 0, 0)", x.code(0, 0, 0, 0, 0), 0);
        due("code(15, 0, 0, 0, 0)", x.code(15, 0, 0, 0, 0), 15);
        due("code(0, 7, 0, 0, 0)", x.code(0, 7, 0, 0, 0), 112);
        due("code(0, 0, 7, 0, 0)", x.code(0, 0, 7, 0, 0), 896);
        due("code(0, 0, 0, 7, 0)", x.code(0, 0, 0, 7, 0), 7168);
        due("code(0, 0, 0, 0, 1)", x.code(0, 0, 0, 0, 1), 8192);
        due("code(0, 0, 0, 0, -1)", x.code(0, 0, 0, 0, -1), -8192);
        due("code(-1, -1, -1, -1, -1)", x.code(-1, -1, -1, -1, -1), -1);
        due("code(16, 8, 8, 8, 524288)", x.code(16, 8, 8, 8, 524288), 0);
        due("code(20, 9, 10, 11, 524293)", x.code(20, 9, 10, 11, 524293), 44308);
        due("code(-12, -7, -6, -5, 5)", x.code(-12, -7, -6, -5, 5), 44308);
        due("code(0, 0, 0, 0, 262143)", x.code(0, 0, 0, 0, 262143), 2147475456);
        due("code(0, 0, 0, 0, 262144)", x.code(0, 0, 0, 0, 262144), MIN);
        due("code(5, 0, 0, 0, -262144)", x.code(5, 0, 0, 0, -262144), MIN + 5);
        due("code(MIN, MIN, MIN, MIN, MIN)", x.code(MIN, MIN, MIN, MIN, MIN), 0);
        due("code(MAX, MAX, MAX, MAX, MAX)", x.code(MAX, MAX, MAX, MAX, MAX), -1);
        dueTaken("code", x, 0, 0, 0, 0, 0, 0);
    }

    private static void promise4() {
        WideMachine x = new WideMachine();
        for (int r = 0; r < 8; r++) {
            due("set(" + r + ")", x.set(r, r * 1000 - 3000), true);
        }
        due("set(8, 63)", x.set(8, 63), true);
        for (int r : new int[] {9, -1, 16, MIN, MAX}) {
            due("set(" + r + ", 1)", x.set(r, 1), false);
        }
        for (int v : new int[] {64, -1, MIN, MAX}) {
            due("set(8, " + v + ")", x.set(8, v), false);
        }
        for (int r = 0; r < 8; r++) {
            due("register(" + r + ")", x.register(r), r * 1000 - 3000);
        }
        due("register(8)", x.register(8), 63);
        due("set(8, 0)", x.set(8, 0), true);
        due("register(8) at 0", x.register(8), 0);
        due("set(0, MIN)", x.set(0, MIN), true);
        due("register(0)", x.register(0), MIN);
        x.run();
        x.set(3, 4);
        x.set(8, 0);
        dueKept("set keeps blocks", x, 0);
    }

    private static void promise5() {
        WideMachine x = new WideMachine();
        fill(x, 0, number(1), number(2), number(3), number(4), number(5), STOP);
        int[] times = {6, 3, 2, 2};
        for (int w = 1; w <= 4; w++) {
            due("width(" + w + ")", x.width(w), true);
            due("width " + w + ": block(0, 1)", x.block(0, 1), times[w - 1]);
        }
        x.width(1);
        x.set(8, 0);
        x.run();
        for (int w : new int[] {0, 5, -1, MIN, MAX}) {
            due("width(" + w + ")", x.width(w), false);
            due("after it: block(0, 1)", x.block(0, 1), 6);
            dueKept("after it", x, 0);
        }
        due("width(1) again", x.width(1), true);
        dueKept("the same width", x);
        due("not kept: block(0, 2)", x.block(0, 2), 0);
    }

    private static void resultsOfInstructions() {
        due("ADD", result(ADD, 5, 7, 0), 12);
        due("ADD wraps", result(ADD, MAX, 1, 0), MIN);
        due("SUB", result(SUB, 5, 7, 0), -2);
        due("SUB wraps", result(SUB, MIN, 1, 0), MAX);
        due("MUL", result(MUL, -5, 7, 0), -35);
        due("MUL wraps", result(MUL, 65536, 65537, 0), 65536);
        due("ADDN", result(ADDN, 5, 7, 100), 105);
        due("ADDN below", result(ADDN, 5, 7, -100), -95);
        due("ADDN greatest", result(ADDN, 0, 0, 262143), 262143);
        due("ADDN least", result(ADDN, 0, 0, -262144), -262144);
        due("ADDN wraps", result(ADDN, MAX, 0, 1), MIN);
        due("LESS", result(LESS, -1, 0, 0), 1);
        due("LESS same", result(LESS, 4, 4, 0), 0);
        due("LESS far", result(LESS, MAX, MIN, 0), 0);
        due("AND", result(AND, 12, 10, 0), 8);
        due("XOR", result(XOR, 12, 10, 0), 6);
        due("SHIFT", result(SHIFT, 3, 9, 4), 48);
        due("SHIFT out", result(SHIFT, 3, 9, 31), MIN);
        due("DIV", result(DIV, 7, 2, 0), 3);
        due("DIV below", result(DIV, -7, 2, 0), -3);
        due("DIV by below", result(DIV, 7, -2, 0), -3);
        due("DIV MIN by -1", result(DIV, MIN, -1, 0), MIN);
        due("LOAD", result(LOAD, 0, 0, 0), word(LOAD, 3, 1, 2, 0));
        due("LOAD below", result(LOAD, 10, 0, -9), STOP);
        due("no word 3 for STOP", result(STOP, 1, 2, 9), 77);
        due("no word 3 for STORE", result(STORE, 60, 2, 0), 77);
    }

    private static void jumps() {
        WideMachine x = with(2, 0, word(JUMP, 1, 2, 3, 9));
        due("JUMP: run", x.run(), 0);
        due("JUMP: pc", x.register(8), 9);
        dueTaken("JUMP", x, 8, 6, 2, 0, 2, 2);
        x = with(2, 0, word(ZERO, 1, 2, 3, 9), STOP);
        due("ZERO of 0: run", x.run(), 0);
        due("ZERO of 0: pc", x.register(8), 9);
        x = with(2, 0, word(ZERO, 1, 2, 3, 9), STOP);
        x.set(2, MIN);
        due("ZERO of MIN: run", x.run(), 0);
        due("ZERO of MIN: pc", x.register(8), 1);
        x = with(2, 63, word(ZERO, 0, 1, 0, 9));
        x.set(1, 1);
        due("ZERO at 63: run", x.run(), 0);
        due("ZERO at 63: pc", x.register(8), 0);
        x = with(2, 62, number(1), number(2));
        due("behind 63: run", x.run(), 0);
        due("behind 63: pc", x.register(8), 0);
        dueTaken("behind 63", x, 11, 9, 2, 0, 2, 3);
        due("STOP again: run", x.run(), 0);
        due("STOP again: pc", x.register(8), 0);
        dueTaken("STOP again", x, 12, 9, 2, 1, 3, 4);
        x = with(2, 63, STOP);
        due("STOP at 63: run", x.run(), 0);
        due("STOP at 63: pc", x.register(8), 63);
    }

    private static void stores() {
        WideMachine x = with(2, 0, word(STORE, 0, 1, 2, -3), word(STORE, 0, 1, 3, 13), word(LOAD, 4, 1, 0, 13), STOP);
        x.set(1, 50);
        x.set(2, -9);
        x.set(3, MAX);
        due("STORE: run", x.run(), 0);
        due("STORE: word(47)", x.word(47), -9);
        due("STORE: word(63)", x.word(63), MAX);
        due("LOAD behind STORE", x.register(4), MAX);
        // STORE 1, STORE 2, LOAD 3 to 4, STOP 3
        dueTaken("STORE", x, 12 + 4, 12, 1, 0, 1, 4);
    }

    private static void faults() {
        for (int target : new int[] {-1, 64, MIN, MAX}) {
            for (int op : new int[] {LOAD, STORE}) {
                WideMachine x = with(2, 20, word(MUL, 5, 6, 6, 0), word(ADDN, 4, 5, 0, 1), word(op, 1, 2, 4, 0),
                        number(7), STOP);
                x.set(1, 55);
                x.set(2, target);
                x.set(6, 3);
                String what = "op " + op + " at " + target;
                due(what + ": run", x.run(), 1);
                due(what + ": pc", x.register(8), 22);
                due(what + ": register(1)", x.register(1), 55);
                due(what + ": register(4)", x.register(4), 10);
                due(what + ": register(7)", x.register(7), 0);
                // MUL 1, ADDN 4, LOAD 1 or STORE 5
                dueTaken(what, x, 15 + (op == LOAD ? 1 : 5), 15, 1, 0, 1, 2);
                dueKept(what, x, 20);
            }
        }
        WideMachine x = with(2, 0, word(MUL, 5, 6, 6, 0), word(DIV, 5, 6, 1, 0), STOP);
        x.set(6, 3);
        due("DIV by 0: run", x.run(), 2);
        due("DIV by 0: pc", x.register(8), 1);
        due("DIV by 0: register(5)", x.register(5), 9);
        dueTaken("DIV by 0", x, 9 + 2, 9, 1, 0, 1, 1);
        dueKept("DIV by 0", x, 0);
        due("DIV by 0 again: run", x.run(), 2);
        dueTaken("DIV by 0 again", x, 11 + 6 + 1, 15, 2, 0, 2, 1);
        dueKept("DIV by 0 again", x, 1, 0);
        for (int op = 14; op < 16; op++) {
            x = with(2, 0, word(MUL, 5, 6, 6, 0), word(ADDN, 4, 5, 0, 1), word(op, 1, 2, 3, 4), STOP);
            due("op " + op + ": block(0, 0)", x.block(0, 0), 3);
            due("op " + op + ": run", x.run(), 3);
            due("op " + op + ": pc", x.register(8), 2);
            dueTaken("op " + op, x, 9 + 4, 9, 1, 0, 1, 2);
            dueKept("op " + op, x, 0);
        }
    }

    private static void longRuns() {
        WideMachine x = with(2, 30, number(1), word(JUMP, 0, 0, 0, 30));
        due("endless: run", x.run(), 4);
        due("endless: pc", x.register(8), 30);
        dueTaken("endless", x, 6 + 100, 6, 1, 99, 100, 200);
        due("endless again: run", x.run(), 4);
        dueTaken("endless again", x, 6 + 200, 6, 1, 199, 200, 400);
        // 50 blocks at 0 and 49 at 2, before them the JUMP at 5, behind them the STOP at 4
        x = with(2, 0, word(ADDN, 1, 1, 0, -1), word(ZERO, 0, 1, 0, 4), word(JUMP, 0, 0, 0, 0), STOP, STOP,
                word(JUMP, 0, 0, 0, 0));
        x.set(1, 50);
        due("100 blocks with STOP: run", x.run(), 0);
        due("100 blocks with STOP: taken(4)", x.taken(4), 100);
        x.flush();
        x.set(1, 50);
        x.set(8, 5);
        due("100 blocks before STOP: run", x.run(), 4);
        due("100 blocks before STOP: pc", x.register(8), 4);
        due("100 blocks before STOP: taken(4)", x.taken(4), 200);
        due("100 blocks before STOP: block(4, 2)", x.block(4, 2), 0);
        due("one block more: run", x.run(), 0);
        due("one block more: taken(4)", x.taken(4), 201);
    }

    private static void promise6() {
        resultsOfInstructions();
        jumps();
        stores();
        faults();
        longRuns();
    }

    private static void promise7() {
        WideMachine x = with(2, 63, word(LOAD, 7, 0, 0, 63));
        x.set(0, 0);
        x.run();
        due("register(7)", x.register(7), word(LOAD, 7, 0, 0, 63));
        due("register(8)", x.register(8), 0);
        x.set(8, 17);
        due("register(8) set", x.register(8), 17);
        for (int r = 0; r < 8; r++) {
            x.set(r, -1 - r);
        }
        for (int r = 0; r < 8; r++) {
            due("register(" + r + ")", x.register(r), -1 - r);
        }
        for (int r : new int[] {9, -1, 15, MIN, MAX}) {
            due("register(" + r + ")", x.register(r), 0);
        }
    }

    private static void promise8() {
        WideMachine x = new WideMachine();
        for (int at = 0; at < 64; at++) {
            x.put(at, at * 3 - 100);
        }
        for (int at = 0; at < 64; at++) {
            due("word(" + at + ")", x.word(at), at * 3 - 100);
        }
        for (int at : new int[] {64, -1, 127, MIN, MAX}) {
            due("word(" + at + ")", x.word(at), 0);
        }
    }

    private static void promise9() {
        // at 0: MUL 1, ZERO 1, time 3; at 2: ADDN 1, JUMP 1, time 1; at 10: STOP
        WideMachine x = with(2, 0, word(MUL, 3, 2, 2, 0), word(ZERO, 0, 1, 0, 10), word(ADDN, 1, 1, 0, -1),
                word(JUMP, 0, 0, 0, 0));
        x.set(1, 2);
        due("run", x.run(), 0);
        // 0 made, 2 made, 0, 2, 0, 10 made
        dueTaken("loop", x, 6 + 6 + 3 + 3 * 3 + 2 * 1 + 1, 15, 3, 3, 6, 3 * 2 + 2 * 2 + 1);
        x.flush();
        x.width(1);
        x.put(40, 5);
        dueTaken("not by other calls", x, 27, 15, 3, 3, 6, 11);
        for (int what : new int[] {6, -1, MIN, MAX}) {
            due("taken(" + what + ")", x.taken(what), -1);
        }
    }

    private static void promise10() {
        WideMachine x = with(2, 0, number(1), number(2), number(3), number(4), number(5), number(6), number(7),
                number(1), number(2), STOP);
        due("eight: block(0, 0)", x.block(0, 0), 8);
        due("eight: block(0, 1)", x.block(0, 1), 4);
        due("to STOP: block(1, 0)", x.block(1, 0), 8);
        due("to STOP: block(2, 0)", x.block(2, 0), 8);
        due("to STOP: block(3, 0)", x.block(3, 0), 7);
        due("STOP: block(9, 0)", x.block(9, 0), 1);
        due("STOP: block(9, 1)", x.block(9, 1), 1);
        for (int op = 0; op < 16; op++) {
            fill(x, 20, number(1), op, number(2), STOP);
            boolean ends = op == STOP || op == JUMP || op == ZERO || op == 14 || op == 15;
            due("op " + op + ": block(20, 0)", x.block(20, 0), ends ? 2 : 4);
        }
        fill(x, 60, number(1), number(2), number(3), word(MUL, 4, 4, 4, 0));
        due("to 63: block(60, 0)", x.block(60, 0), 4);
        due("to 63: block(60, 1)", x.block(60, 1), 4);
        due("to 63: block(63, 0)", x.block(63, 0), 1);
        due("to 63: block(63, 1)", x.block(63, 1), 3);
        due("before: block(0, 2)", x.block(0, 2), 0);
        x.set(8, 0);
        due("run", x.run(), 0);
        due("after: block(0, 2)", x.block(0, 2), 1);
        due("after: block(8, 2)", x.block(8, 2), 1);
        due("after: block(1, 2)", x.block(1, 2), 0);
        x.put(4, STOP);
        due("changed: block(0, 2)", x.block(0, 2), 0);
        due("changed: block(0, 0)", x.block(0, 0), 5);
        for (int at : new int[] {-1, 64, MIN, MAX}) {
            for (int what = 0; what < 3; what++) {
                due("block(" + at + ", " + what + ")", x.block(at, what), -1);
            }
        }
        for (int what : new int[] {-1, 3, MIN, MAX}) {
            due("block(8, " + what + ")", x.block(8, what), -1);
        }
        dueTaken("block takes nothing", x, 24 + 6 + 4 + 1, 30, 2, 0, 2, 10);
    }

    private static void cyclesByRegisters() {
        int reader = word(ADD, 2, 0, 1, 0);
        dueCycles("read behind ADD", 4, words(number(1), reader), 1, 2);
        dueCycles("read behind LOAD", 4, words(word(LOAD, 1, 0, 0, 0), reader), 1, 3);
        dueCycles("read behind MUL", 4, words(word(MUL, 1, 0, 0, 0), reader), 1, 4);
        dueCycles("read behind DIV", 4, words(word(DIV, 1, 0, 0, 0), reader), 1, 5);
        dueCycles("read behind the last writer", 4,
                words(word(DIV, 1, 0, 0, 0), number(1), word(ADDN, 2, 1, 0, 0)), 1, 5, 6);
        boolean[] usesA = {false, true, true, true, true, true, true, false, true, true, true, true, true, true, false, false};
        boolean[] usesB = {false, true, true, true, false, false, true, false, false, true, true, true, false, true, false, false};
        boolean[] usesD = {false, true, true, true, true, true, false, false, false, true, true, true, true, true, false, false};
        int[] latency = {1, 1, 1, 3, 1, 2, 1, 1, 1, 1, 1, 1, 1, 4, 1, 1};
        for (int op = 0; op < 16; op++) {
            // The first DIV, of which r1 comes, uses its unit in cycle 1 alone.
            int free = op == MUL || op == DIV ? 2 : 1;
            dueCycles("op " + op + " by a", 4, words(word(DIV, 1, 0, 0, 0), word(op, 3, 1, 0, 0)), 1, usesA[op] ? 5 : free);
            dueCycles("op " + op + " by b", 4, words(word(DIV, 1, 0, 0, 0), word(op, 3, 0, 1, 0)), 1, usesB[op] ? 5 : free);
            dueCycles("op " + op + " by d", 4, words(word(DIV, 1, 0, 0, 0), word(op, 1, 0, 0, 0)), 1,
                    usesD[op] ? 6 - latency[op] : free);
        }
        dueCycles("writer behind MUL", 4, words(word(MUL, 1, 0, 0, 0), word(LOAD, 1, 0, 0, 0)), 1, 3);
        dueCycles("slow writer behind ADDN", 4, words(number(1), word(DIV, 1, 0, 0, 0)), 1, 1);
        dueCycles("same latency", 4, words(number(1), number(1), number(1)), 1, 2, 3);
        int late = word(ADD, 2, 1, 3, 0);
        dueCycles("writer behind reader", 4, words(word(MUL, 1, 0, 0, 0), late, number(3), number(4)), 1, 4, 4, 1);
        dueCycles("writer behind reader by a", 4,
                words(word(MUL, 1, 0, 0, 0), word(ADD, 2, 3, 1, 0), number(3)), 1, 4, 4);
        dueCycles("writer behind STORE", 4,
                words(word(MUL, 1, 0, 0, 0), word(STORE, 0, 1, 3, 0), number(3)), 1, 4, 4);
        dueCycles("writer behind an ADDN that does not read b", 4,
                words(word(MUL, 1, 0, 0, 0), word(ADDN, 2, 1, 3, 0), number(3)), 1, 4, 1);
        dueCycles("reads its own", 4, words(word(ADDN, 1, 1, 0, 1), word(ADDN, 1, 1, 0, 1)), 1, 2);
        dueCycles("reader and writer of the last of two", 4,
                words(number(1), word(MUL, 1, 1, 1, 0), word(ADD, 1, 1, 1, 0)), 1, 2, 5);
    }

    private static void cyclesByMemory() {
        int slow = word(MUL, 1, 0, 0, 0);
        dueCycles("LOAD behind STORE", 4, words(word(STORE, 0, 0, 0, 40), word(LOAD, 2, 0, 0, 41)), 1, 2);
        dueCycles("LOAD behind a late STORE", 4, words(slow, word(STORE, 0, 0, 1, 40), word(LOAD, 2, 0, 0, 41)), 1, 4, 5);
        dueCycles("LOAD before a late LOAD", 4, words(slow, word(LOAD, 2, 1, 0, 40), word(LOAD, 3, 0, 0, 41)), 1, 4, 1);
        dueCycles("STORE behind a late LOAD", 4, words(slow, word(LOAD, 2, 1, 0, 40), word(STORE, 0, 0, 0, 41)), 1, 4, 5);
        dueCycles("STORE behind a late STORE", 4, words(slow, word(STORE, 0, 0, 1, 40), word(STORE, 0, 0, 0, 41)), 1, 4, 5);
        dueCycles("LOAD behind all STOREs", 4,
                words(slow, word(STORE, 0, 0, 1, 40), word(STORE, 0, 0, 0, 41), word(LOAD, 2, 0, 0, 41)), 1, 4, 5, 6);
    }

    private static void cyclesByRoom() {
        int[] five = words(number(1), number(2), number(3), number(4), number(5));
        dueCycles("five", 1, five, 1, 2, 3, 4, 5, 6);
        dueCycles("five", 2, five, 1, 1, 2, 2, 3, 3);
        dueCycles("five", 3, five, 1, 1, 1, 2, 2, 2);
        dueCycles("five", 4, five, 1, 1, 1, 1, 2, 2);
        dueCycles("two LOADs", 4, words(word(LOAD, 1, 0, 0, 0), word(LOAD, 2, 0, 0, 0)), 1, 2);
        dueCycles("two MULs", 4, words(word(MUL, 1, 0, 0, 0), word(MUL, 2, 0, 0, 0)), 1, 2);
        dueCycles("two DIVs", 4, words(word(DIV, 1, 0, 0, 0), word(DIV, 2, 0, 0, 0)), 1, 2);
        dueCycles("MUL and DIV", 4, words(word(MUL, 1, 0, 0, 0), word(DIV, 2, 0, 0, 0)), 1, 2);
        dueCycles("LOAD and MUL", 4, words(word(LOAD, 1, 0, 0, 0), word(MUL, 2, 0, 0, 0)), 1, 1);
        dueCycles("STORE and DIV", 4, words(word(STORE, 1, 0, 0, 9), word(DIV, 2, 0, 0, 0)), 1, 1);
        dueCycles("fills a gap", 1, words(word(MUL, 1, 0, 0, 0), word(ADDN, 2, 1, 0, 0), number(3), number(4), number(5)),
                1, 4, 2, 3, 5, 6);
    }

    private static void promise11() {
        cyclesByRegisters();
        cyclesByMemory();
        cyclesByRoom();
        for (int op : new int[] {STOP, JUMP, ZERO, 14, 15}) {
            int[] late = words(word(MUL, 1, 2, 2, 0), word(ADDN, 2, 1, 0, 0), number(3), op);
            dueCycles("end " + op + " not before others", 4, late, 1, 4, 1, 4, -1);
            dueCycles("end " + op + " does not wait for what comes of them", 4, words(word(DIV, 1, 2, 2, 0), op), 1, 1, -1);
        }
        dueCycles("ZERO waits for what it reads", 4, words(word(MUL, 1, 0, 0, 0), word(ZERO, 0, 1, 0, 0)), 1, 4, -1);
        WideMachine x = with(2, 0, number(1), number(2), number(3), STOP);
        due("time: block(0, 1)", x.block(0, 1), 2);
        fill(x, 10, word(DIV, 1, 2, 2, 0), word(ADDN, 3, 2, 0, 0), STOP);
        due("time of what lasts longest: block(10, 1)", x.block(10, 1), 4);
        fill(x, 56, number(1), number(2), number(3), number(4), number(5), number(6), number(7), number(1));
        due("cycle(56, 7)", x.cycle(56, 7), 4);
        due("cycle(57, 7)", x.cycle(57, 7), -1);
        for (int k : new int[] {-1, 8, MIN, MAX}) {
            due("cycle(56, " + k + ")", x.cycle(56, k), -1);
        }
        due("cycle(0, 4)", x.cycle(0, 4), -1);
        for (int at : new int[] {-1, 64, MIN, MAX}) {
            due("cycle(" + at + ", 0)", x.cycle(at, 0), -1);
        }
        x.set(8, 0);
        x.run();
        x.put(0, word(MUL, 3, 0, 0, 0));
        due("as words are now: cycle(0, 2)", x.cycle(0, 2), 4);
        x.width(1);
        due("as width is now: cycle(0, 1)", x.cycle(0, 1), 2);
    }

    private static void promise12() {
        WideMachine x = new WideMachine();
        for (int at = 0; at < 4; at++) {
            runAt(x, at * 10);
        }
        dueKept("four", x, 30, 20, 10, 0);
        runAt(x, 10);
        dueKept("begun again", x, 10, 30, 20, 0);
        runAt(x, 0);
        dueKept("the oldest again", x, 0, 10, 30, 20);
        dueTaken("two of six kept before", x, 12 + 6, 12, 4, 2, 6, 6);
        runAt(x, 40);
        dueKept("a fifth", x, 40, 0, 10, 30);
        due("block(20, 2)", x.block(20, 2), 0);
        runAt(x, 20);
        dueKept("the lost one", x, 20, 40, 0, 10);
        x.put(40, 0);
        dueKept("one taken from between", x, 20, 0, 10);
        runAt(x, 50);
        dueKept("room again", x, 50, 20, 0, 10);
        for (int k : new int[] {-1, 4, MIN, MAX}) {
            due("kept(" + k + ")", x.kept(k), -1);
        }
        // Two blocks that share words are two, and both go with a shared word.
        x = with(2, 0, number(1), number(2), STOP);
        runAt(x, 1);
        runAt(x, 0);
        dueKept("shared", x, 0, 1);
        x.put(0, number(3));
        dueKept("only the longer", x, 1);
        runAt(x, 0);
        x.put(2, STOP);
        dueKept("both", x);
    }

    private static void promise13() {
        WideMachine x = new WideMachine();
        due("new: flush()", x.flush(), 0);
        for (int at = 1; at <= 5; at++) {
            runAt(x, at);
            due("block(" + at + ", 2)", x.block(at, 2), 1);
        }
        x.set(1, 9);
        due("flush()", x.flush(), 4);
        dueKept("flushed", x);
        due("flushed: block(5, 2)", x.block(5, 2), 0);
        due("flush() again", x.flush(), 0);
        due("flushed: register(1)", x.register(1), 9);
        dueTaken("flushed", x, 20, 15, 5, 0, 5, 5);
        runAt(x, 5);
        dueTaken("made anew", x, 24, 18, 6, 0, 6, 6);
        due("flush() of one", x.flush(), 1);
    }

    private static void modulo() {
        int[] n = {-1, -64, -65, 64, 130, -262144, 262143};
        int[] to = {63, 0, 63, 0, 2, 0, 63};
        for (int k = 0; k < n.length; k++) {
            WideMachine x = with(2, 20, word(JUMP, 0, 0, 0, n[k]));
            due("JUMP " + n[k] + ": run", x.run(), 0);
            due("JUMP " + n[k] + ": pc", x.register(8), to[k]);
            x = with(2, 20, word(ZERO, 0, 0, 0, n[k]));
            due("ZERO " + n[k] + ": run", x.run(), 0);
            due("ZERO " + n[k] + ": pc", x.register(8), to[k]);
        }
        due("SHIFT -1", result(SHIFT, 1, 0, -1), MIN);
        due("SHIFT -31", result(SHIFT, 5, 0, -31), 10);
        due("SHIFT -32", result(SHIFT, 5, 0, -32), 5);
        due("SHIFT 32", result(SHIFT, 5, 0, 32), 5);
        due("SHIFT 33", result(SHIFT, 5, 0, 33), 10);
    }

    private static void storesIntoTheBlock() {
        // Behind: MUL 1, STORE to word 3 at 2, ends there.
        WideMachine x = with(4, 0, word(MUL, 1, 2, 2, 0), word(STORE, 0, 0, 0, 20), word(STORE, 0, 0, 5, 4),
                number(6), number(7), STOP);
        x.set(5, number(3));
        due("behind: run", x.run(), 0);
        // the first block: STOREs at 1 and 2; the second: 3 instructions, time 1
        dueTaken("behind", x, 18 + 2 + 9 + 1, 27, 2, 0, 2, 3 + 3);
        due("behind: register(3)", x.register(3), 1);
        due("behind: register(7)", x.register(7), 0);
        dueKept("behind", x, 3);
        // To the same value it ends, too.
        x.set(8, 0);
        due("same value: run", x.run(), 0);
        dueTaken("same value", x, 30 + 30, 54, 4, 0, 4, 12);
        dueKept("same value", x, 3);
        // To itself: goes on, and is kept no more.
        x = with(4, 0, number(1), word(STORE, 0, 0, 5, 1), number(2), STOP);
        due("itself: run", x.run(), 0);
        dueTaken("itself", x, 12 + 1, 12, 1, 0, 1, 4);
        due("itself: word(1)", x.word(1), 0);
        due("itself: register(2)", x.register(2), 1);
        dueKept("itself", x);
        // Before, by an instruction that is slow now: cycles stay those of the beginning.
        x = with(1, 0, number(1), word(STORE, 0, 3, 5, 0), number(2), STOP);
        x.set(5, word(DIV, 2, 6, 6, 0));
        due("before: run", x.run(), 0);
        dueTaken("before", x, 12 + 4, 12, 1, 0, 1, 4);
        due("before: register(8)", x.register(8), 3);
        dueKept("before", x);
        // Before, by a STOP: the end stays that of the beginning.
        x = with(2, 0, number(1), word(STORE, 0, 3, 5, 0), number(2), STOP);
        due("STOP before: run", x.run(), 0);
        due("STOP before: register(2)", x.register(2), 1);
        due("STOP before: register(8)", x.register(8), 3);
        // Before, then behind: ends all the same.
        x = with(2, 0, number(1), word(STORE, 0, 3, 5, 0), word(STORE, 0, 3, 5, 4), number(2), number(4), number(6), STOP);
        due("before and behind: run", x.run(), 0);
        dueTaken("before and behind", x, 21 + 2 + 6 + 1, 27, 2, 0, 2, 3 + 2);
        due("before and behind: register(2)", x.register(2), 1);
        due("before and behind: register(8)", x.register(8), 4);
        dueKept("before and behind", x, 3);
        // The word right behind the STORE, the last one there is.
        x = with(2, 61, number(1), word(STORE, 0, 3, 5, 63), number(2));
        x.set(5, word(JUMP, 0, 0, 0, 20));
        due("right behind: run", x.run(), 0);
        due("right behind: register(2)", x.register(2), 0);
        due("right behind: register(8)", x.register(8), 20);
        dueTaken("right behind", x, 9 + 1 + 3 + 1 + 3 + 1, 15, 3, 0, 3, 4);
        dueKept("right behind", x, 20, 63);
        // The first word behind the block is not its word.
        x = with(2, 0, word(STORE, 0, 3, 5, 3), number(2), word(JUMP, 0, 0, 0, 3), number(1));
        due("beside: run", x.run(), 0);
        dueTaken("beside", x, 9 + 2 + 3 + 1, 12, 2, 0, 2, 4);
        dueKept("beside", x, 3, 0);
        // The last instruction stores a STOP into itself: that was no STOP.
        x = with(2, 63, word(STORE, 0, 3, 5, 63));
        due("itself at 63: run", x.run(), 0);
        due("itself at 63: register(8)", x.register(8), 0);
        dueTaken("itself at 63", x, 3 + 1 + 3 + 1, 6, 2, 0, 2, 2);
        dueKept("itself at 63", x, 0);
        // Another kept block goes, the one at work stays.
        x = with(2, 0, word(STORE, 0, 3, 5, 40), STOP);
        runAt(x, 40);
        runAt(x, 0);
        dueKept("another", x, 0);
        // A fault behind a STORE before: kept no more already.
        x = with(2, 0, number(1), word(STORE, 0, 3, 5, 0), word(DIV, 1, 1, 5, 0), STOP);
        due("fault behind: run", x.run(), 2);
        due("fault behind: register(8)", x.register(8), 2);
        dueKept("fault behind", x);
    }

    private static void promise14() {
        modulo();
        storesIntoTheBlock();
        WideMachine x = with(2, 0, number(1), STOP);
        due("STOPs: run", x.run(), 0);
        dueKept("STOPs", x, 0);
        due("STOP is done: taken(5)", x.taken(5), 2);
        x.put(1, STOP);
        dueKept("put of the same value", x);
        x = with(2, 0, number(1), 15);
        due("faults: run", x.run(), 3);
        dueKept("faults", x, 0);
        due("ILLEGAL is not done: taken(5)", x.taken(5), 1);
    }

    public static void main(String[] args) {
        promise1();
        promise2();
        promise3();
        promise4();
        promise5();
        promise6();
        promise7();
        promise8();
        promise9();
        promise10();
        promise11();
        promise12();
        promise13();
        promise14();
        end();
    }
}
