import java.util.ArrayList;
import java.util.List;

/**
 * Compares the class with a second machine that is written straight along the document: cycles are tried one
 * by one against every rule, a made block keeps its own copy of all it was made of, and nothing is worked
 * out twice. The programs come from a counter, so that every run of this test is the same.
 */
public final class ModelRuns {
    private static final int PROGRAMS = 20000, CALLS = 60;
    private static final String[] OPS = {"STOP", "ADD", "SUB", "MUL", "ADDN", "LOAD", "STORE", "JUMP", "ZERO", "LESS",
        "AND", "XOR", "SHIFT", "DIV", "ILLEGAL", "ILLEGAL"};

    private static int wrong = 0;

    private record Instruction(String op, int d, int a, int b, int n) {
        static Instruction of(int word) {
            int low = Math.floorMod(word, 8192);
            return new Instruction(OPS[low % 16], low / 16 % 8, low / 128 % 8, low / 1024, Math.floorDiv(word, 8192));
        }

        boolean ends() {
            return List.of("JUMP", "ZERO", "STOP", "ILLEGAL").contains(op);
        }

        List<Integer> read() {
            return switch (op) {
                case "ADD", "SUB", "MUL", "STORE", "LESS", "AND", "XOR", "DIV" -> List.of(a, b);
                case "ADDN", "LOAD", "ZERO", "SHIFT" -> List.of(a);
                default -> List.of();
            };
        }

        List<Integer> written() {
            return ends() || op.equals("STORE") ? List.of() : List.of(d);
        }

        int latency() {
            return switch (op) {
                case "LOAD" -> 2;
                case "MUL" -> 3;
                case "DIV" -> 4;
                default -> 1;
            };
        }

        boolean memory() {
            return op.equals("LOAD") || op.equals("STORE");
        }

        boolean multiplier() {
            return op.equals("MUL") || op.equals("DIV");
        }
    }

    private static final class Block {
        final int start;
        final List<Instruction> code = new ArrayList<>();
        final List<Integer> cycles = new ArrayList<>();
        int time = 0;

        Block(int start, int[] words, int width) {
            this.start = start;
            for (int at = start; at < 64 && code.size() < 8; at++) {
                code.add(Instruction.of(words[at]));
                if (code.get(code.size() - 1).ends()) {
                    break;
                }
            }
            for (int k = 0; k < code.size(); k++) {
                int cycle = 1;
                while (!fits(k, cycle, width)) {
                    cycle++;
                }
                cycles.add(cycle);
                time = Math.max(time, cycle + code.get(k).latency() - 1);
            }
        }

        int lastWriter(int k, int register) {
            int last = -1;
            for (int e = 0; e < k; e++) {
                if (code.get(e).written().contains(register)) {
                    last = e;
                }
            }
            return last;
        }

        boolean fits(int k, int cycle, int width) {
            Instruction me = code.get(k);
            for (int register : me.read()) {
                int e = lastWriter(k, register);
                if (e >= 0 && cycle < cycles.get(e) + code.get(e).latency()) {
                    return false;
                }
            }
            int there = 0;
            int memory = 0;
            int multiplier = 0;
            for (int e = 0; e < k; e++) {
                Instruction he = code.get(e);
                int his = cycles.get(e);
                for (int register : me.written()) {
                    if (he.written().contains(register) && !(cycle + me.latency() > his + he.latency())) {
                        return false;
                    }
                    if (he.read().contains(register) && cycle < his) {
                        return false;
                    }
                }
                if (me.op().equals("LOAD") && he.op().equals("STORE") && cycle <= his) {
                    return false;
                }
                if (me.op().equals("STORE") && he.memory() && cycle <= his) {
                    return false;
                }
                if (me.ends() && cycle < his) {
                    return false;
                }
                if (his == cycle) {
                    there++;
                    memory += he.memory() ? 1 : 0;
                    multiplier += he.multiplier() ? 1 : 0;
                }
            }
            return there < width && !(me.memory() && memory > 0) && !(me.multiplier() && multiplier > 0);
        }

        boolean holds(int address) {
            return start <= address && address < start + code.size();
        }
    }

    private static final class Model {
        final int[] registers = new int[8];
        final int[] words = new int[64];
        final List<Block> kept = new ArrayList<>();
        final int[] taken = new int[6];
        int pc = 0;
        int width = 2;

        boolean put(int address, int v) {
            if (address < 0 || address > 63) {
                return false;
            }
            words[address] = v;
            kept.removeIf(block -> block.holds(address));
            return true;
        }

        boolean set(int register, int v) {
            if (register == 8 && v >= 0 && v <= 63) {
                pc = v;
                return true;
            }
            if (register < 0 || register > 7) {
                return false;
            }
            registers[register] = v;
            return true;
        }

        boolean width(int w) {
            if (w < 1 || w > 4) {
                return false;
            }
            width = w;
            kept.clear();
            return true;
        }

        int flush() {
            int were = kept.size();
            kept.clear();
            return were;
        }

        Block find(int start) {
            for (Block block : kept) {
                if (block.start == start) {
                    return block;
                }
            }
            return null;
        }

        int run() {
            for (int n = 0; n < 100; n++) {
                Block block = find(pc);
                if (block == null) {
                    block = new Block(pc, words, width);
                    taken[0] += 3 * block.code.size();
                    taken[1] += 3 * block.code.size();
                    taken[2]++;
                    if (kept.size() == 4) {
                        kept.remove(3);
                    }
                } else {
                    taken[3]++;
                    kept.remove(block);
                }
                kept.add(0, block);
                taken[4]++;
                int end = work(block);
                if (end >= 0) {
                    return end;
                }
            }
            return 4;
        }

        int work(Block block) {
            int next = (block.start + block.code.size()) % 64;
            for (int k = 0; k < block.code.size(); k++) {
                Instruction me = block.code.get(k);
                int a = registers[me.a()];
                int b = registers[me.b()];
                int target = a + me.n();
                int fault = 0;
                if (me.op().equals("ILLEGAL")) {
                    fault = 3;
                } else if (me.op().equals("DIV") && b == 0) {
                    fault = 2;
                } else if (me.memory() && (target < 0 || target > 63)) {
                    fault = 1;
                }
                if (fault > 0) {
                    pc = block.start + k;
                    taken[0] += block.cycles.get(k);
                    return fault;
                }
                taken[5]++;
                switch (me.op()) {
                    case "STOP" -> {
                        pc = block.start + k;
                        taken[0] += block.time;
                        return 0;
                    }
                    case "STORE" -> {
                        put(target, b);
                        if (block.holds(target) && target > block.start + k) {
                            pc = block.start + k + 1;
                            taken[0] += block.cycles.get(k);
                            return -1;
                        }
                    }
                    case "JUMP" -> next = Math.floorMod(me.n(), 64);
                    case "ZERO" -> next = a == 0 ? Math.floorMod(me.n(), 64) : next;
                    case "ADD" -> registers[me.d()] = a + b;
                    case "SUB" -> registers[me.d()] = a - b;
                    case "MUL" -> registers[me.d()] = a * b;
                    case "ADDN" -> registers[me.d()] = a + me.n();
                    case "LOAD" -> registers[me.d()] = words[target];
                    case "LESS" -> registers[me.d()] = a < b ? 1 : 0;
                    case "AND" -> registers[me.d()] = a & b;
                    case "XOR" -> registers[me.d()] = a ^ b;
                    case "SHIFT" -> registers[me.d()] = a << Math.floorMod(me.n(), 32);
                    default -> registers[me.d()] = (int) ((long) a / b);
                }
            }
            pc = next;
            taken[0] += block.time;
            return -1;
        }
    }

    private static long seed;

    private static int some(int bound) {
        seed = seed * 6364136223846793005L + 1442695040888963407L;
        return (int) Long.remainderUnsigned(seed >>> 33, bound);
    }

    private static int someWord(int span) {
        int kind = some(20);
        if (kind == 0) {
            return (int) (seed >>> 29);
        }
        int[] ops = {1, 2, 3, 4, 4, 5, 5, 6, 6, 6, 7, 8, 9, 10, 11, 12, 13, 1 + some(13), 0, 14};
        int op = ops[some(20)];
        int n = some(4) == 0 ? some(200) - 100 : some(span);
        return op + 16 * some(8) + 128 * (some(2) * some(8)) + 1024 * some(8) + 8192 * n;
    }

    private static int someValue(int span) {
        switch (some(6)) {
            case 0: return someWord(span);
            case 1: return some(3) - 1;
            case 2: return -2147483648 + some(2);
            case 3: return 2147483647 - some(2);
            default: return some(span);
        }
    }

    private static void due(String what, long got, long want) {
        if (got != want) {
            wrong++;
            if (wrong < 50) {
                System.out.println(what + " answered " + got + ", due is " + want);
            }
        }
    }

    private static int asNumber(boolean answer) {
        return answer ? 1 : 0;
    }

    private static void compare(String where, WideMachine x, Model m) {
        for (int r = 0; r < 8; r++) {
            due(where + "register(" + r + ")", x.register(r), m.registers[r]);
        }
        due(where + "register(8)", x.register(8), m.pc);
        for (int what = 0; what < 6; what++) {
            due(where + "taken(" + what + ")", x.taken(what), m.taken[what]);
        }
        for (int k = 0; k < 4; k++) {
            due(where + "kept(" + k + ")", x.kept(k), k < m.kept.size() ? m.kept.get(k).start : -1);
        }
    }

    private static void compareWords(String where, WideMachine x, Model m) {
        for (int at = 0; at < 64; at++) {
            due(where + "word(" + at + ")", x.word(at), m.words[at]);
        }
    }

    private static void compareBlock(String where, WideMachine x, Model m, int at) {
        Block block = new Block(at, m.words, m.width);
        due(where + "block(" + at + ", 0)", x.block(at, 0), block.code.size());
        due(where + "block(" + at + ", 1)", x.block(at, 1), block.time);
        due(where + "block(" + at + ", 2)", x.block(at, 2), asNumber(m.find(at) != null));
        for (int k = 0; k < 9; k++) {
            due(where + "cycle(" + at + ", " + k + ")", x.cycle(at, k), k < block.code.size() ? block.cycles.get(k) : -1);
        }
    }

    private static void call(String where, WideMachine x, Model m, int span) {
        switch (some(12)) {
            case 0, 1 -> {
                int at = some(span + 2) - 1;
                int v = someWord(span);
                due(where + "put(" + at + ", " + v + ")", asNumber(x.put(at, v)), asNumber(m.put(at, v)));
            }
            case 2, 3 -> {
                int r = some(11) - 1;
                int v = r == 8 ? some(70) - 3 : someValue(span);
                due(where + "set(" + r + ", " + v + ")", asNumber(x.set(r, v)), asNumber(m.set(r, v)));
            }
            case 4 -> {
                int at = some(span);
                due(where + "set(8, " + at + ")", asNumber(x.set(8, at)), asNumber(m.set(8, at)));
            }
            case 5 -> {
                int w = some(6) * some(2);
                due(where + "width(" + w + ")", asNumber(x.width(w)), asNumber(m.width(w)));
            }
            case 6 -> {
                if (some(3) == 0) {
                    due(where + "flush()", x.flush(), m.flush());
                }
            }
            case 7 -> compareBlock(where, x, m, some(64));
            default -> {
                due(where + "run()", x.run(), m.run());
            }
        }
    }

    private static void program(int number) {
        seed = number;
        WideMachine x = new WideMachine();
        Model m = new Model();
        int[] spans = {8, 16, 32, 64};
        int span = spans[some(4)];
        for (int at = 0; at < span; at++) {
            int v = someWord(span);
            x.put(at, v);
            m.put(at, v);
        }
        for (int r = 0; r < 8; r++) {
            int v = someValue(span);
            x.set(r, v);
            m.set(r, v);
        }
        for (int n = 0; n < CALLS; n++) {
            String where = "program " + number + ", call " + n + ": ";
            call(where, x, m, span);
            compare(where, x, m);
        }
        compareWords("program " + number + ", at its end: ", x, m);
    }

    public static void main(String[] args) {
        for (int number = 0; number < PROGRAMS && wrong < 50; number++) {
            program(number);
        }
        if (wrong > 0) {
            System.exit(1);
        }
    }
}
