/** A machine that runs old code, block by block, on wide instructions, and counts the time it takes. */
public final class WideMachine {
    public static final int OK = 0, ADDRESS = 1, DIVISION = 2, ILLEGAL = 3, LONG = 4, NONE = -1;

    private static final int STOP = 0, ADD = 1, SUB = 2, MUL = 3, ADDN = 4, LOAD = 5, STORE = 6, JUMP = 7;
    private static final int ZERO = 8, LESS = 9, AND = 10, XOR = 11, SHIFT = 12, DIV = 13;

    private static final int REGISTERS = 8, PC = 8, WORDS = 64;
    private static final int LONGEST_BLOCK = 8, MOST_KEPT = 4;
    private static final int FIRST_WIDTH = 2, GREATEST_WIDTH = 4;
    private static final int TIME_TO_MAKE_ONE = 3;
    private static final int BLOCKS_IN_A_RUN = 100;
    private static final int MOST_TIME = 500000000;

    /** What a block answers that neither stopped nor faulted; no answer of run has this value. */
    private static final int GOES_ON = -2;

    private final int[] registers = new int[REGISTERS];
    private final int[] words = new int[WORDS];
    private int pc = 0;
    private int widthNow = FIRST_WIDTH;

    /** The kept blocks, the one begun last first. */
    private final int[] keptStarts = new int[MOST_KEPT];
    private final int[] keptLengths = new int[MOST_KEPT];
    private int keptCount = 0;

    /** The block that was looked at last: the one at work while run goes on. */
    private final int[] planOps = new int[LONGEST_BLOCK];
    private final int[] planLatencies = new int[LONGEST_BLOCK];
    /** Registers as bits, so that one AND tells whether two instructions meet in one. */
    private final int[] planReads = new int[LONGEST_BLOCK];
    private final int[] planWrites = new int[LONGEST_BLOCK];
    private final int[] planCycles = new int[LONGEST_BLOCK];
    private int planStart = 0;
    private int planLength = 0;
    private int planTime = 0;

    private int timeOfAll = 0;
    private int timeOfMaking = 0;
    private int blocksMade = 0;
    private int blocksFoundKept = 0;
    private int blocksBegun = 0;
    private int instructionsDone = 0;

    public WideMachine() {
    }

    public boolean put(int address, int v) {
        if (!isAddress(address)) {
            return false;
        }
        change(address, v);
        return true;
    }

    public int code(int op, int d, int a, int b, int n) {
        return (op & 15) | ((d & 7) << 4) | ((a & 7) << 7) | ((b & 7) << 10) | (n << 13);
    }

    public boolean set(int register, int v) {
        if (register == PC) {
            if (!isAddress(v)) {
                return false;
            }
            pc = v;
            return true;
        }
        if (register < 0 || register >= REGISTERS) {
            return false;
        }
        registers[register] = v;
        return true;
    }

    public boolean width(int w) {
        if (w < 1 || w > GREATEST_WIDTH) {
            return false;
        }
        widthNow = w;
        keptCount = 0;
        return true;
    }

    public int run() {
        if (timeOfAll > MOST_TIME) {
            return NONE;
        }
        for (int n = 0; n < BLOCKS_IN_A_RUN; n++) {
            planBlock(pc);
            beginPlanned();
            int end = doPlanned();
            if (end != GOES_ON) {
                return end;
            }
        }
        return LONG;
    }

    public int register(int r) {
        if (r == PC) {
            return pc;
        }
        return r >= 0 && r < REGISTERS ? registers[r] : 0;
    }

    public int word(int address) {
        return isAddress(address) ? words[address] : 0;
    }

    public int taken(int what) {
        switch (what) {
            case 0: return timeOfAll;
            case 1: return timeOfMaking;
            case 2: return blocksMade;
            case 3: return blocksFoundKept;
            case 4: return blocksBegun;
            case 5: return instructionsDone;
            default: return NONE;
        }
    }

    public int block(int address, int what) {
        if (!isAddress(address)) {
            return NONE;
        }
        planBlock(address);
        switch (what) {
            case 0: return planLength;
            case 1: return planTime;
            case 2: return placeAmongKept(address) == NONE ? 0 : 1;
            default: return NONE;
        }
    }

    public int cycle(int address, int k) {
        if (!isAddress(address)) {
            return NONE;
        }
        planBlock(address);
        return k >= 0 && k < planLength ? planCycles[k] : NONE;
    }

    public int kept(int k) {
        return k >= 0 && k < keptCount ? keptStarts[k] : NONE;
    }

    public int flush() {
        int were = keptCount;
        keptCount = 0;
        return were;
    }

    private static boolean isAddress(int address) {
        return address >= 0 && address < WORDS;
    }

    private static int opOf(int instruction) {
        return instruction & 15;
    }

    private static int dOf(int instruction) {
        return (instruction >> 4) & 7;
    }

    private static int aOf(int instruction) {
        return (instruction >> 7) & 7;
    }

    private static int bOf(int instruction) {
        return (instruction >> 10) & 7;
    }

    private static int nOf(int instruction) {
        return instruction >> 13;
    }

    private static boolean isIllegal(int op) {
        return op > DIV;
    }

    private static boolean endsBlock(int op) {
        return op == STOP || op == JUMP || op == ZERO || isIllegal(op);
    }

    private static boolean usesMemory(int op) {
        return op == LOAD || op == STORE;
    }

    private static boolean usesMultiplier(int op) {
        return op == MUL || op == DIV;
    }

    private static boolean writesD(int op) {
        return !endsBlock(op) && op != STORE;
    }

    private static boolean readsA(int op) {
        return !endsBlock(op) || op == ZERO;
    }

    private static boolean readsB(int op) {
        return !endsBlock(op) && op != ADDN && op != LOAD && op != SHIFT;
    }

    private static int latencyOf(int op) {
        switch (op) {
            case LOAD: return 2;
            case MUL: return 3;
            case DIV: return 4;
            default: return 1;
        }
    }

    private static int greater(int x, int y) {
        return x > y ? x : y;
    }

    private void planBlock(int start) {
        planStart = start;
        planLength = lengthFrom(start);
        planTime = 0;
        for (int k = 0; k < planLength; k++) {
            decode(k, words[start + k]);
            int least = leastCycle(k);
            planCycles[k] = firstWithRoom(k, least);
            planTime = greater(planTime, planCycles[k] + planLatencies[k] - 1);
        }
    }

    private int lengthFrom(int start) {
        int length = 0;
        boolean ended = false;
        while (!ended && length < LONGEST_BLOCK && start + length < WORDS) {
            int op = opOf(words[start + length]);
            ended = endsBlock(op);
            length++;
        }
        return length;
    }

    private void decode(int k, int instruction) {
        int op = opOf(instruction);
        int a = readsA(op) ? 1 << aOf(instruction) : 0;
        int b = readsB(op) ? 1 << bOf(instruction) : 0;
        planOps[k] = op;
        planLatencies[k] = latencyOf(op);
        planReads[k] = a | b;
        planWrites[k] = writesD(op) ? 1 << dOf(instruction) : 0;
    }

    private int leastCycle(int k) {
        int least = 1;
        for (int e = 0; e < k; e++) {
            int behind = leastBehind(e, k);
            least = greater(least, behind);
        }
        return least;
    }

    private int leastBehind(int e, int k) {
        int least = 1;
        int ready = planCycles[e] + planLatencies[e];
        // Any earlier writer may be asked, not the last one alone: the last one is always ready last.
        if ((planWrites[e] & planReads[k]) != 0) {
            least = greater(least, ready);
        }
        if ((planWrites[e] & planWrites[k]) != 0) {
            least = greater(least, ready + 1 - planLatencies[k]);
        }
        if ((planReads[e] & planWrites[k]) != 0 || endsBlock(planOps[k])) {
            least = greater(least, planCycles[e]);
        }
        if (keepsMemoryOrder(planOps[e], planOps[k])) {
            least = greater(least, planCycles[e] + 1);
        }
        return least;
    }

    private static boolean keepsMemoryOrder(int earlierOp, int laterOp) {
        return earlierOp == STORE && usesMemory(laterOp) || earlierOp == LOAD && laterOp == STORE;
    }

    private int firstWithRoom(int k, int least) {
        int cycle = least;
        // The k earlier instructions stand in at most k cycles, so the k-th try finds an empty one at the latest.
        for (int tries = 0; tries < k && !hasRoom(k, cycle); tries++) {
            cycle++;
        }
        return cycle;
    }

    private boolean hasRoom(int k, int cycle) {
        int there = 0;
        for (int e = 0; e < k; e++) {
            if (planCycles[e] == cycle) {
                there++;
                if (needSameUnit(planOps[e], planOps[k])) {
                    return false;
                }
            }
        }
        return there < widthNow;
    }

    private static boolean needSameUnit(int op, int other) {
        return usesMemory(op) && usesMemory(other) || usesMultiplier(op) && usesMultiplier(other);
    }

    private int placeAmongKept(int start) {
        for (int k = 0; k < keptCount; k++) {
            if (keptStarts[k] == start) {
                return k;
            }
        }
        return NONE;
    }

    private void beginPlanned() {
        int place = placeAmongKept(planStart);
        if (place == NONE) {
            place = placeForNew();
            timeOfMaking += TIME_TO_MAKE_ONE * planLength;
            timeOfAll += TIME_TO_MAKE_ONE * planLength;
            blocksMade++;
        } else {
            blocksFoundKept++;
        }
        blocksBegun++;
        putFirst(place);
    }

    /** The last place; if all are used, the block that was begun longest ago gives it up. */
    private int placeForNew() {
        if (keptCount < MOST_KEPT) {
            keptCount++;
        }
        return keptCount - 1;
    }

    private void putFirst(int place) {
        for (int k = place; k > 0; k--) {
            keptStarts[k] = keptStarts[k - 1];
            keptLengths[k] = keptLengths[k - 1];
        }
        keptStarts[0] = planStart;
        keptLengths[0] = planLength;
    }

    private void change(int address, int v) {
        words[address] = v;
        int left = 0;
        for (int k = 0; k < keptCount; k++) {
            boolean holdsIt = address >= keptStarts[k] && address < keptStarts[k] + keptLengths[k];
            if (!holdsIt) {
                keptStarts[left] = keptStarts[k];
                keptLengths[left] = keptLengths[k];
                left++;
            }
        }
        keptCount = left;
    }

    /** OK after STOP, a fault's number, or GOES_ON. */
    private int doPlanned() {
        for (int k = 0; k < planLength; k++) {
            int at = planStart + k;
            int instruction = words[at];
            int target = targetOf(instruction);
            int fault = faultOf(instruction);
            if (fault != OK) {
                pc = at;
                timeOfAll += planCycles[k];
                return fault;
            }
            pc = at + 1 < WORDS ? at + 1 : 0;
            perform(instruction);
            instructionsDone++;
            if (planOps[k] == STORE && isBehindInBlock(target, at)) {
                timeOfAll += planCycles[k];
                return GOES_ON;
            }
            if (planOps[k] == STOP) {
                pc = at;
                timeOfAll += planTime;
                return OK;
            }
        }
        timeOfAll += planTime;
        return GOES_ON;
    }

    /** Asks for the bounds the block had when it was begun: by now it may be kept no more. */
    private boolean isBehindInBlock(int address, int at) {
        return address > at && address < planStart + planLength;
    }

    private int targetOf(int instruction) {
        return registers[aOf(instruction)] + nOf(instruction);
    }

    private int faultOf(int instruction) {
        int op = opOf(instruction);
        int target = targetOf(instruction);
        if (isIllegal(op)) {
            return ILLEGAL;
        }
        if (op == DIV && registers[bOf(instruction)] == 0) {
            return DIVISION;
        }
        return usesMemory(op) && !isAddress(target) ? ADDRESS : OK;
    }

    /** Does an instruction that does not fault. */
    private void perform(int instruction) {
        int op = opOf(instruction);
        int b = bOf(instruction);
        int target = targetOf(instruction);
        if (op == STORE) {
            change(target, registers[b]);
        } else if (op == JUMP || op == ZERO && registers[aOf(instruction)] == 0) {
            pc = nOf(instruction) & 63;
        } else if (op == LOAD) {
            registers[dOf(instruction)] = words[target];
        } else if (writesD(op)) {
            registers[dOf(instruction)] = resultOf(instruction);
        }
    }

    private int resultOf(int instruction) {
        int a = registers[aOf(instruction)];
        int b = registers[bOf(instruction)];
        int n = nOf(instruction);
        switch (opOf(instruction)) {
            case ADD: return a + b;
            case SUB: return a - b;
            case MUL: return a * b;
            case ADDN: return a + n;
            case LESS: return a < b ? 1 : 0;
            case AND: return a & b;
            case XOR: return a ^ b;
            case SHIFT: return a << (n & 31);
            case DIV: return b == 0 ? 0 : a / b;
            default: return 0;
        }
    }
}
