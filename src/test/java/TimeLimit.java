/**
 * run answers NONE, and changes nothing, when the time of all runs is above 500000000. No object comes there
 * in 512 calls, so this goes on further than the document promises anything.
 */
public final class TimeLimit {
    private static final int LIMIT = 500000000;

    private static int wrong = 0;

    private static void due(String what, long got, long want) {
        if (got != want) {
            wrong++;
            System.out.println(what + " answered " + got + ", due is " + want);
        }
    }

    /** Eight blocks of eight DIVs that wait for each other: with four kept, each is made every time. */
    private static WideMachine slow() {
        WideMachine x = new WideMachine();
        for (int at = 0; at < 64; at++) {
            x.put(at, x.code(13, 1, 1, 2, 0));
        }
        x.set(2, 1);
        return x;
    }

    public static void main(String[] args) {
        WideMachine x = slow();
        int runs = 0;
        while (x.taken(0) <= LIMIT && runs < 100000) {
            due("run " + runs, x.run(), 4);
            runs++;
        }
        // A run takes 100 * (24 + 32)
        due("runs up to the limit", runs, LIMIT / 5600 + 1);
        int[] before = new int[15];
        for (int pass = 0; pass < 2; pass++) {
            for (int k = 0; k < 15; k++) {
                int now = k < 6 ? x.taken(k) : k < 10 ? x.kept(k - 6) : x.register(k - 6);
                if (pass == 1) {
                    due("state " + k + " behind a run that answers NONE", now, before[k]);
                }
                before[k] = now;
            }
            due("run above the limit", x.run(), -1);
        }
        if (wrong > 0) {
            System.exit(1);
        }
    }
}
