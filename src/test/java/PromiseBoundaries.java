/** The boundary cases that the document's sections "Promise 1" to "Promise 14" name, worked out by hand. */
public final class PromiseBoundaries extends Checks {
    private static final int[] NO_WORDS = {-1, 64, 65, -64, 128, MIN, MIN + 1, MAX};

    /** Everything that can be asked of an object, as one text, but for single cycles. */
    private static String all(WideMachine x) {
        StringBuilder s = new StringBuilder();
        for (int r = 0; r <= 8; r++) {
            s.append(" r").append(r).append('=').append(x.register(r));
        }
        for (int at = 0; at < 64; at++) {
            s.append(" w").append(at).append('=').append(x.word(at));
        }
        for (int what = 0; what < 6; what++) {
            s.append(" t").append(what).append('=').append(x.taken(what));
        }
        for (int k = 0; k < 4; k++) {
            s.append(" k").append(k).append('=').append(x.kept(k));
        }
        s.append(" time=").append(x.block(0, 1));
        return s.toString();
    }

    /** A machine with something in all its places: 20 and 40 kept, time taken, width 1. */
    private static WideMachine used() {
        WideMachine x = with(1, 20, number(1), number(2), STOP);
        fill(x, 0, number(1), number(2), number(3), STOP);
        runAt(x, 40);
        runAt(x, 20);
        x.set(0, -5);
        x.set(7, 9);
        return x;
    }

    private static void dueUnchanged(String what, WideMachine x, String before) {
        due(what + ": whether all is as before", all(x).equals(before), true);
    }

    private static void promise1() {
        sentence("1: All registers and words 0, PC 0, nothing kept, time 0, width 2");
        WideMachine x = new WideMachine();
        for (int r : words(0, 7, 8)) {
            due("register(" + r + ")", x.register(r), 0);
        }
        for (int at : words(0, 63)) {
            due("word(" + at + ")", x.word(at), 0);
            due("block(" + at + ", 2)", x.block(at, 2), 0);
        }
        dueKept("new", x);
        dueTaken("new", x, 0, 0, 0, 0, 0, 0);
        due("flush()", x.flush(), 0);
        fill(x, 0, number(1), number(2), number(3), number(4), number(5));
        int[] cycles = {1, 1, 2, 2, 3, 3};
        for (int k = 0; k < 6; k++) {
            due("cycle(0, " + k + ")", x.cycle(0, k), cycles[k]);
        }
        // A first run of a new object finds a STOP in word 0.
        x = new WideMachine();
        dueRun("new", x, 0, 0);
        dueTaken("first run", x, 4, 3, 1, 0, 1, 1);
        // Objects have nothing in common.
        x.set(3, 3);
        x.put(3, 3);
        x.width(4);
        WideMachine y = new WideMachine();
        due("another: register(3)", y.register(3), 0);
        due("another: word(3)", y.word(3), 0);
        due("another: taken(0)", y.taken(0), 0);
        dueKept("another", y);
    }

    private static void promise2() {
        sentence("2: A word becomes v: true");
        WideMachine x = used();
        for (int v : words(0, 1, -1, MIN, MAX)) {
            for (int at : words(0, 63)) {
                due("put(" + at + ", " + v + ")", x.put(at, v), true);
                due("word(" + at + ")", x.word(at), v);
            }
        }
        sentence("2: false if there is none");
        x = used();
        String before = all(x);
        for (int at : NO_WORDS) {
            due("put(" + at + ", 77)", x.put(at, 77), false);
        }
        dueUnchanged("wrong puts", x, before);
    }

    private static void promise3() {
        sentence("3: The int of an instruction with these bits (n as far as there is room)");
        WideMachine x = new WideMachine();
        due("n greatest", x.code(0, 0, 0, 0, 262143), 2147475456);
        due("n one above", x.code(0, 0, 0, 0, 262144), MIN);
        due("n least", x.code(0, 0, 0, 0, -262144), MIN);
        due("n one below", x.code(0, 0, 0, 0, -262145), 2147475456);
        due("n MIN", x.code(0, 0, 0, 0, MIN), 0);
        due("n MAX", x.code(0, 0, 0, 0, MAX), -8192);
        sentence("14: of op the lowest 4 bits count, of d, a and b the lowest 3, of n the lowest 19");
        for (int above : words(0, 16, -16, 1024, MIN, MAX - 15)) {
            due("op 15 and " + above, x.code(15 + above, 0, 0, 0, 0), 15);
            due("op 0 and " + above, x.code(above, 0, 0, 0, 0), 0);
        }
        for (int above : words(0, 8, -8, 1024, MIN, MAX - 7)) {
            due("d 7 and " + above, x.code(0, 7 + above, 0, 0, 0), 112);
            due("a 7 and " + above, x.code(0, 0, 7 + above, 0, 0), 896);
            due("b 7 and " + above, x.code(0, 0, 0, 7 + above, 0), 7168);
            due("none and " + above, x.code(0, above, above, above, 0), 0);
        }
        for (int above : words(0, 524288, -524288, 1048576, MIN, MAX - 524287)) {
            due("n 524287 and " + above, x.code(0, 0, 0, 0, 524287 + above), -8192);
            due("n 0 and " + above, x.code(0, 0, 0, 0, above), 0);
        }
        due("all bits", x.code(-1, -1, -1, -1, -1), -1);
        due("all least", x.code(15, 7, 7, 7, 524287), -1);
        String before = all(x);
        x.code(1, 2, 3, 4, 5);
        dueUnchanged("code", x, before);
    }

    private static void promise4() {
        sentence("4: A register becomes v (0..7), or the PC (8; 0..63): true");
        WideMachine x = used();
        for (int v : words(0, 1, -1, 64, MIN, MAX)) {
            for (int r : words(0, 7)) {
                due("set(" + r + ", " + v + ")", x.set(r, v), true);
                due("register(" + r + ")", x.register(r), v);
            }
        }
        for (int v : words(0, 1, 62, 63)) {
            due("set(8, " + v + ")", x.set(8, v), true);
            due("register(8)", x.register(8), v);
        }
        dueKept("set", x, 20, 40);
        sentence("4: false, and nothing changes, for others");
        x = used();
        String before = all(x);
        for (int r : words(-1, 9, 10, 16, -8, MIN, MIN + 7, MAX)) {
            due("set(" + r + ", 5)", x.set(r, 5), false);
        }
        for (int v : NO_WORDS) {
            due("set(8, " + v + ")", x.set(8, v), false);
        }
        dueUnchanged("wrong sets", x, before);
    }

    private static void promise5() {
        sentence("5: The width, 1..4: true");
        int[] times = {4, 2, 2, 1};
        WideMachine x = used();
        for (int w : words(1, 4, 3, 2, 1)) {
            due("width(" + w + ")", x.width(w), true);
            due("width " + w + ": block(0, 1)", x.block(0, 1), times[w - 1]);
        }
        sentence("5: All kept blocks are kept no more");
        for (int w = 1; w <= 4; w++) {
            x = used();
            dueKept("before width(" + w + ")", x, 20, 40);
            x.width(w);
            dueKept("width(" + w + ")", x);
            due("width(" + w + "): flush()", x.flush(), 0);
            runAt(x, 20);
            due("width(" + w + "): taken(3)", x.taken(3), 0);
            due("width(" + w + "): taken(2)", x.taken(2), 3);
        }
        sentence("5: false, and nothing changes, for others");
        x = used();
        String before = all(x);
        for (int w : words(0, 5, -1, 6, 8, MIN, MIN + 1, MAX)) {
            due("width(" + w + ")", x.width(w), false);
        }
        dueUnchanged("wrong widths", x, before);
    }

    /** Begins as many blocks at 0 as are counted, then comes to word 3. */
    private static WideMachine counted(int count, int wordBehind) {
        WideMachine x = with(2, 0, word(ADDN, 1, 1, 0, -1), word(LESS, 2, 1, 3, 0), word(ZERO, 0, 2, 0, 0), wordBehind);
        x.set(1, count);
        x.set(3, 1);
        return x;
    }

    private static void promise6() {
        sentence("6: LONG if 100 blocks were begun in this run and another one would be");
        for (int count = 98; count <= 101; count++) {
            WideMachine x = counted(count, STOP);
            dueRun(count + " and STOP", x, count < 100 ? 0 : 4, count < 101 ? 3 : 0);
            due(count + " and STOP: taken(4)", x.taken(4), count == 98 ? 99 : 100);
            due(count + " and STOP: block(3, 2)", x.block(3, 2), count < 100 ? 1 : 0);
        }
        for (int op = 14; op < 16; op++) {
            dueRun("99 and op " + op, counted(99, op), 3, 3);
            dueRun("100 and op " + op, counted(100, op), 4, 3);
        }
        dueRun("99 and a DIVISION", counted(99, word(DIV, 1, 1, 1, 0)), 2, 3);
        dueRun("100 and a DIVISION", counted(100, word(DIV, 1, 1, 1, 0)), 4, 3);
        dueRun("99 and an ADDRESS", counted(99, word(LOAD, 1, 0, 0, 64)), 1, 3);
        dueRun("100 and an ADDRESS", counted(100, word(LOAD, 1, 0, 0, 64)), 4, 3);
        // The 100th goes on to another one: that is LONG, be it but a STOP.
        dueRun("99 and a JUMP", counted(99, word(JUMP, 0, 0, 0, 9)), 4, 9);
        dueRun("98 and a JUMP", counted(98, word(JUMP, 0, 0, 0, 9)), 0, 9);
        // Every run counts for itself.
        WideMachine x = counted(250, STOP);
        dueRun("250: first", x, 4, 0);
        dueRun("250: second", x, 4, 0);
        due("250: register(1)", x.register(1), 50);
        dueRun("250: third", x, 0, 3);
        due("250: taken(4)", x.taken(4), 251);
        due("250: taken(3)", x.taken(3), 249);
        // Blocks without any jump come around behind 63.
        x = new WideMachine();
        for (int at = 0; at < 64; at++) {
            x.put(at, word(ADDN, 1, 1, 0, 1));
        }
        dueRun("around", x, 4, 800 % 64);
        due("around: register(1)", x.register(1), 800);
        // Each of the eight has gone before it comes again; time 8 each.
        dueTaken("around", x, 100 * (24 + 8), 2400, 100, 0, 100, 800);
        dueKept("around", x, 24, 16, 8, 0);
        // Blocks that a STORE ends count, too.
        x = with(2, 0, word(STORE, 0, 0, 7, 1), word(JUMP, 0, 0, 0, 0));
        x.set(7, word(JUMP, 0, 0, 0, 0));
        dueRun("cut", x, 4, 0);
        // 50 at 0, made each time, take 6 + 1; 50 at 1 are made each time, too, and take 3 + 1.
        dueTaken("cut", x, 50 * 7 + 50 * 4, 450, 100, 0, 100, 100);
        sentence("6: until STOP: OK, or a fault's number");
        due("OK", new WideMachine().run(), 0);
        due("ADDRESS", with(2, 0, word(STORE, 0, 0, 0, -1)).run(), 1);
        due("DIVISION", with(2, 0, word(DIV, 0, 0, 0, 0)).run(), 2);
        due("ILLEGAL", with(2, 0, 14).run(), 3);
    }

    private static void promise7and8() {
        sentence("7: A register (0..7) or the PC (8); 0 for others");
        WideMachine x = new WideMachine();
        for (int r = 0; r <= 8; r++) {
            x.set(r, 11 + r);
        }
        for (int r = 0; r <= 8; r++) {
            due("register(" + r + ")", x.register(r), 11 + r);
        }
        for (int r : words(-1, 9, 10, 16, -8, MIN, MIN + 7, MAX)) {
            due("register(" + r + ")", x.register(r), 0);
        }
        sentence("8: A word; 0 if there is none");
        for (int at = 0; at < 64; at++) {
            x.put(at, 1000 + at);
        }
        for (int at = 0; at < 64; at++) {
            due("word(" + at + ")", x.word(at), 1000 + at);
        }
        for (int at : NO_WORDS) {
            due("word(" + at + ")", x.word(at), 0);
        }
    }

    private static void promise9() {
        sentence("9: NONE for others");
        WideMachine x = used();
        for (int what : words(-1, 6, 7, 8, -6, MIN, MIN + 5, MAX)) {
            due("taken(" + what + ")", x.taken(what), -1);
        }
        sentence("9: 5: instructions done, without those that faulted");
        for (int op : words(14, 15, word(DIV, 1, 0, 0, 0), word(LOAD, 1, 0, 0, 64), word(STORE, 0, 0, 0, -1))) {
            x = with(1, 10, op);
            x.run();
            due("word " + op + " first: taken(5)", x.taken(5), 0);
            x = with(1, 10, number(1), number(2), op);
            x.run();
            due("word " + op + " third: taken(5)", x.taken(5), 2);
        }
        sentence("9: 3: blocks begun that were kept before");
        x = with(2, 10, number(1), STOP);
        int[] before = {0, 1, 2, 2, 3, 3, 4, 4};
        for (int n = 0; n < 8; n++) {
            if (n == 3) {
                x.flush();
            }
            if (n == 5) {
                x.width(2);
            }
            if (n == 7) {
                x.put(11, STOP);
            }
            runAt(x, 10);
            due("begun " + (n + 1) + ": taken(3)", x.taken(3), before[n]);
            due("begun " + (n + 1) + ": taken(2)", x.taken(2), n + 1 - before[n]);
            due("begun " + (n + 1) + ": taken(4)", x.taken(4), n + 1);
            due("begun " + (n + 1) + ": taken(1)", x.taken(1), 6 * (n + 1 - before[n]));
            due("begun " + (n + 1) + ": taken(0)", x.taken(0), 6 * (n + 1 - before[n]) + n + 1);
        }
    }

    private static void promise10() {
        sentence("10: NONE if there is no such word, or for others");
        WideMachine x = used();
        String before = all(x);
        for (int at : NO_WORDS) {
            for (int what : words(-1, 0, 1, 2, 3)) {
                due("block(" + at + ", " + what + ")", x.block(at, what), -1);
            }
        }
        for (int what : words(-1, 3, 4, MIN, MIN + 2, MAX)) {
            due("block(0, " + what + ")", x.block(0, what), -1);
            due("block(20, " + what + ")", x.block(20, what), -1);
            due("block(63, " + what + ")", x.block(63, what), -1);
        }
        dueUnchanged("block", x, before);
        sentence("10: Of the block that begins at a word, as words are now");
        for (int at : words(0, 63)) {
            x = new WideMachine();
            due("block(" + at + ", 0)", x.block(at, 0), 1);
            due("block(" + at + ", 1)", x.block(at, 1), 1);
            due("block(" + at + ", 2)", x.block(at, 2), 0);
            runAt(x, at);
            due("run: block(" + at + ", 2)", x.block(at, 2), 1);
            x.put(at, word(DIV, 1, 2, 3, 0));
            due("put: block(" + at + ", 0)", x.block(at, 0), at == 0 ? 2 : 1);
            due("put: block(" + at + ", 1)", x.block(at, 1), 4);
            due("put: block(" + at + ", 2)", x.block(at, 2), 0);
        }
        sentence("10: 2: 1 if it is kept");
        // Words within a kept block begin blocks of their own, that are not kept.
        x = used();
        int[] kept = {0, 1, 0, 0, 0};
        for (int at = 19; at < 24; at++) {
            due("block(" + at + ", 2)", x.block(at, 2), kept[at - 19]);
        }
        x.set(8, 21);
        due("the PC alone keeps nothing: block(21, 2)", x.block(21, 2), 0);
        x.flush();
        due("flushed: block(20, 2)", x.block(20, 2), 0);
    }

    private static void promise11() {
        sentence("11: The cycle of instruction k (0 first) of that block; NONE if there is none");
        WideMachine x = used();
        String before = all(x);
        due("cycle(20, 0)", x.cycle(20, 0), 1);
        due("cycle(20, 2)", x.cycle(20, 2), 3);
        for (int k : words(-1, 3, 4, 7, 8, 64, MIN, MIN + 1, MAX)) {
            due("cycle(20, " + k + ")", x.cycle(20, k), -1);
        }
        for (int at : NO_WORDS) {
            for (int k : words(-1, 0, 1, 8)) {
                due("cycle(" + at + ", " + k + ")", x.cycle(at, k), -1);
            }
        }
        dueUnchanged("cycle", x, before);
        // What an earlier, longer block left behind is not seen.
        for (int at = 0; at < 8; at++) {
            x.put(at, number(at));
        }
        due("cycle(0, 7)", x.cycle(0, 7), 8);
        due("cycle(0, 8)", x.cycle(0, 8), -1);
        due("cycle(63, 0)", x.cycle(63, 0), 1);
        due("cycle(63, 1)", x.cycle(63, 1), -1);
        x.put(7, STOP);
        due("STOP eighth: cycle(0, 7)", x.cycle(0, 7), 8);
        x.put(6, STOP);
        due("STOP seventh: cycle(0, 7)", x.cycle(0, 7), -1);
        due("STOP seventh: cycle(0, 6)", x.cycle(0, 6), 7);
    }

    private static void promise12and13() {
        sentence("12: The beginning of the k-th of the kept blocks (0 that which was begun last); NONE if there is none");
        WideMachine x = new WideMachine();
        int[] wrong = {-1, 4, 5, -4, MIN, MAX};
        for (int count = 0; count <= 5; count++) {
            int are = count < 4 ? count : 4;
            for (int k = 0; k < 4; k++) {
                due(count + " begun: kept(" + k + ")", x.kept(k), k < are ? 59 + count - 1 - k : -1);
            }
            for (int k : wrong) {
                due(count + " begun: kept(" + k + ")", x.kept(k), -1);
            }
            runAt(x, 59 + count);
        }
        x.flush();
        runAt(x, 0);
        due("word 0: kept(0)", x.kept(0), 0);
        due("word 0: kept(1)", x.kept(1), -1);
        sentence("13: Nothing is kept any more: how many were");
        int[] were = {0, 1, 2, 3, 4, 4};
        for (int count = 0; count <= 5; count++) {
            x = new WideMachine();
            for (int at = 0; at < count; at++) {
                runAt(x, at);
            }
            due(count + " begun: flush()", x.flush(), were[count]);
            dueKept(count + " begun, flushed", x);
            due(count + " begun: flush() again", x.flush(), 0);
            dueTaken(count + " begun, flushed", x, 4 * count, 3 * count, count, 0, count, count);
            runAt(x, 0);
            dueKept(count + " begun, flushed, run", x, 0);
            due(count + " begun, flushed, run: taken(2)", x.taken(2), count + 1);
        }
    }

    private static void modulo() {
        sentence("14: n modulo 64 is from 0 to 63");
        int[] n = {0, 63, 64, 127, 128, 262143, -1, -63, -64, -65, -128, -262144, -262143};
        int[] to = {0, 63, 0, 63, 0, 63, 63, 1, 0, 63, 0, 0, 1};
        for (int k = 0; k < n.length; k++) {
            dueRun("JUMP " + n[k], with(2, 20, word(JUMP, 0, 0, 0, n[k])), 0, to[k]);
            dueRun("ZERO " + n[k], with(2, 20, word(ZERO, 0, 0, 0, n[k])), 0, to[k]);
        }
        sentence("14: n modulo 32 from 0 to 31 for n below 0, too");
        int[] by = {0, 1, 30, 31, 32, 33, 63, 64, 262143, -1, -2, -31, -32, -33, -64, -262144};
        int[] bit = {0, 1, 30, 31, 0, 1, 31, 0, 31, 31, 30, 1, 0, 31, 0, 0};
        for (int k = 0; k < by.length; k++) {
            due("SHIFT of 1 by " + by[k], result(SHIFT, 1, 0, by[k]), (int) (1L << bit[k]));
        }
        due("SHIFT of -1 by 31", result(SHIFT, -1, 0, 31), MIN);
        due("SHIFT of MIN by 1", result(SHIFT, MIN, 0, 1), 0);
        due("SHIFT of MIN by 0", result(SHIFT, MIN, 0, 0), MIN);
    }

    private static void staysKept() {
        sentence("14: A block at work whose instruction faults stays kept, and so does one that STOPs");
        for (int op : words(STOP, 14, 15, word(DIV, 1, 0, 0, 0), word(LOAD, 1, 0, 0, 64), word(STORE, 0, 0, 0, -1))) {
            for (int before = 0; before < 8; before++) {
                WideMachine x = new WideMachine();
                for (int at = 0; at < before; at++) {
                    x.put(30 + at, number(1));
                }
                x.put(30 + before, op);
                runAt(x, 30);
                due("word " + op + " behind " + before + ": register(8)", x.register(8), 30 + before);
                dueKept("word " + op + " behind " + before, x, 30);
                due("word " + op + " behind " + before + ": taken(5)", x.taken(5), op == STOP ? before + 1 : before);
            }
        }
        sentence("14: STOP, JUMP and ZERO count as instructions done");
        WideMachine x = with(2, 30, STOP);
        x.run();
        due("STOP: taken(5)", x.taken(5), 1);
        x = with(2, 30, word(JUMP, 0, 0, 0, 40));
        x.run();
        due("JUMP and STOP: taken(5)", x.taken(5), 2);
        x = with(2, 30, word(ZERO, 0, 0, 0, 40));
        x.run();
        due("ZERO that jumps and STOP: taken(5)", x.taken(5), 2);
        x = with(2, 30, word(ZERO, 0, 7, 0, 40));
        x.set(7, 1);
        x.run();
        due("ZERO that does not and STOP: taken(5)", x.taken(5), 2);
        sentence("14: put makes blocks be kept no more also if the word has that value already");
        for (int at = 19; at <= 23; at++) {
            x = used();
            x.put(at, x.word(at));
            if (at < 20 || at > 22) {
                dueKept("put(" + at + ")", x, 20, 40);
            } else {
                dueKept("put(" + at + ")", x, 40);
            }
        }
    }

    private static void blockAtWork() {
        sentence("14: a block at work is done up to the end it had when it was begun");
        // Word 10 becomes each op there is: that changes neither end, nor cycles, nor time.
        for (int op = 0; op < 16; op++) {
            WideMachine x = with(1, 10, number(1), word(STORE, 0, 6, 7, 10), number(2), word(JUMP, 0, 0, 0, 20));
            x.set(7, word(op, 2, 3, 4, 5));
            dueRun("op " + op + " before", x, 0, 20);
            dueTaken("op " + op + " before", x, 12 + 4 + 3 + 1, 15, 2, 0, 2, 5);
            dueKept("op " + op + " before", x, 20);
            // Into the STORE itself.
            x = with(1, 10, number(1), word(STORE, 0, 6, 7, 11), number(2), word(JUMP, 0, 0, 0, 20));
            x.set(7, word(op, 2, 3, 4, 5));
            dueRun("op " + op + " in its place", x, 0, 20);
            dueTaken("op " + op + " in its place", x, 12 + 4 + 3 + 1, 15, 2, 0, 2, 5);
            dueKept("op " + op + " in its place", x, 20);
        }
        sentence("14: a STORE to a word of it that does not stand behind the STORE makes it be kept no more");
        WideMachine x = with(2, 10, word(STORE, 0, 6, 7, 10), STOP);
        dueRun("the first word, by itself", x, 0, 11);
        dueKept("the first word, by itself", x);
        due("the first word, by itself: word(10)", x.word(10), 0);
        // Begun again it is another block, and is made anew.
        dueTaken("the first word, by itself", x, 6 + 1, 6, 1, 0, 1, 2);
        runAt(x, 10);
        dueTaken("begun again", x, 7 + 3 + 1, 9, 2, 0, 2, 3);
        // The eighth, by itself: the block has no word behind.
        x = with(1, 10, number(1), number(2), number(3), number(4), number(5), number(1), number(2), word(STORE, 0, 6, 7, 17));
        dueRun("the eighth, by itself", x, 0, 18);
        dueTaken("the eighth, by itself", x, 24 + 8 + 3 + 1, 27, 2, 0, 2, 9);
        dueKept("the eighth, by itself", x, 18);
        sentence("14: a later STORE in it to one of its words behind that later STORE ends it all the same");
        // STOREs at 11, to 10, and at 12, to each of 9 to 16; the block is 10 to 15, its cycles 1 to 6.
        for (int at = 9; at <= 16; at++) {
            boolean cut = at >= 13 && at <= 15;
            x = with(1, 10, number(1), word(STORE, 0, 0, 7, 10), word(STORE, 0, 6, 5, 0), number(2), number(3), STOP);
            x.set(6, at);
            x.set(5, x.word(at));
            x.set(7, number(1));
            String what = "then to " + at;
            dueRun(what, x, 0, 15);
            dueTaken(what, x, cut ? 18 + 3 + 9 + 3 : 18 + 6, cut ? 27 : 18, cut ? 2 : 1, 0, cut ? 2 : 1, 6);
            if (cut) {
                dueKept(what, x, 13);
            } else {
                dueKept(what, x);
            }
        }
        // A fault behind such a STORE: the block is not kept again by it.
        x = with(1, 10, number(1), word(STORE, 0, 6, 7, 10), 15);
        dueRun("a fault behind", x, 3, 12);
        dueTaken("a fault behind", x, 9 + 3, 9, 1, 0, 1, 2);
        dueKept("a fault behind", x);
        // With four kept, the block at work has cost one its place before its own is lost.
        x = new WideMachine();
        for (int at = 1; at <= 4; at++) {
            runAt(x, at);
        }
        fill(x, 20, word(STORE, 0, 6, 7, 20), STOP);
        runAt(x, 20);
        dueKept("four and one that loses itself", x, 4, 3, 2);
    }

    /** Up to the last call that the document promises anything of. */
    private static void calls() {
        sentence("An object is used for at most 512 calls after it has been made");
        WideMachine x = with(2, 0, word(ADDN, 1, 1, 0, 1), word(JUMP, 0, 0, 0, 0));
        // width, two puts and set were four.
        for (int n = 4; n < 510; n++) {
            due("call " + (n + 1) + ": run()", x.run(), 4);
        }
        due("call 511: register(1)", x.register(1), 50600);
        // ADDN and JUMP both stand in cycle 1.
        due("call 512: taken(0)", x.taken(0), 6 + 50600);
    }

    public static void main(String[] args) {
        promise1();
        promise2();
        promise3();
        promise4();
        promise5();
        promise6();
        promise7and8();
        promise9();
        promise10();
        promise11();
        promise12and13();
        modulo();
        staysKept();
        blockAtWork();
        calls();
        end();
    }
}
