/**
 * run answers NONE, and changes nothing, when the time of all runs is above 500000000. No object comes there
 * in 512 calls, so this goes on further than the document promises anything.
 */
public final class TimeLimit extends Checks {
    private static final int LIMIT = 500000000;
    /** 100 blocks of eight DIVs that wait for each other, each block made anew. */
    private static final int SLOW_RUN = 100 * (24 + 32);
    private static final int STATES = 80;

    /** Eight blocks of eight DIVs: with four kept, each is made every time. */
    private static WideMachine slow() {
        WideMachine x = new WideMachine();
        for (int at = 0; at < 64; at++) {
            x.put(at, word(DIV, 1, 1, 2, 0));
        }
        x.set(2, 1);
        return x;
    }

    private static int state(WideMachine x, int k) {
        if (k < 64) {
            return x.word(k);
        }
        if (k < 70) {
            return x.taken(k - 64);
        }
        return k < 79 ? x.register(k - 70) : x.kept(0);
    }

    private static void dueNone(WideMachine x) {
        int[] before = new int[STATES];
        for (int k = 0; k < STATES; k++) {
            before[k] = state(x, k);
        }
        for (int n = 0; n < 3; n++) {
            due("run above the limit", x.run(), -1);
        }
        for (int k = 0; k < STATES; k++) {
            due("state " + k + " behind a run that answers NONE", state(x, k), before[k]);
        }
    }

    private static void slowRuns(WideMachine x, int runs) {
        for (int n = 0; n < runs; n++) {
            due("slow run", x.run(), 4);
        }
        due("time of slow runs", x.taken(0), runs * SLOW_RUN);
    }

    private static void farAbove() {
        WideMachine x = slow();
        slowRuns(x, LIMIT / SLOW_RUN + 1);
        dueNone(x);
    }

    /** At the limit itself there is one run more. */
    private static void oneAbove() {
        WideMachine x = slow();
        slowRuns(x, LIMIT / SLOW_RUN);
        x.put(63, STOP);
        // 3 to make it, then 1 for each run
        int runs = LIMIT % SLOW_RUN - 3;
        x.set(8, 63);
        for (int n = 0; n < runs; n++) {
            due("run of 1", x.run(), 0);
        }
        due("at the limit: taken(0)", x.taken(0), LIMIT);
        due("at the limit: run", x.run(), 0);
        due("one above: taken(0)", x.taken(0), LIMIT + 1);
        dueNone(x);
        // Nothing else is refused there.
        due("one above: put(63, 5)", x.put(63, 5), true);
        due("one above: word(63)", x.word(63), 5);
        due("one above: flush()", x.flush(), 3);
        dueNone(x);
    }

    public static void main(String[] args) {
        sentence("6: NONE, and nothing changes, if the time of all runs is above 500000000");
        farAbove();
        oneAbove();
        end();
    }
}
