/** Promise 12: which past steps are unordered with a LOAD of the current instance now. */
public final class Promise12ConcurrentTest extends Ops {
    public static void main(String[] args) {
        refuses();
        followsARun();
        supposesALoadBeforeARet();
        answersInStoppedRuns();
        changesNothing();
        Check.end();
    }

    private static void refuses() {
        SeriesParallelRace x = Check.machine(SET, 1);
        Check.due("concurrent(0) in EDIT", REFUSED, x.concurrent(0));
        x.start();
        Check.due("concurrent(0) before a step", REFUSED, x.concurrent(0));
        x.run(1);
        Check.due("concurrent(0)", 0, x.concurrent(0));
        for (int k : new int[] {-1, 1, 64, 127, 128, LEAST, MOST}) {
            Check.due("concurrent(" + k + ")", REFUSED, x.concurrent(k));
        }
        Check.due("run(1)", DONE, x.run(1));
        Check.due("concurrent(0) when done", REFUSED, x.concurrent(0));
        Check.due("concurrent(1) when done", REFUSED, x.concurrent(1));
    }

    private static void followsARun() {
        SeriesParallelRace x = Check.started(SPAWN, 4, CALL, 6, SYNC, 0, RET, 0, SET, 1, RET, 0, SPAWN, 4, SYNC, 0);
        int[][] answers = {
            {0},                             // SPAWN by the root
            {0, 0},                          // SET by its child
            {0, 1, 1},                       // RET of the child: now the root is asked
            {0, 1, 1, 0},                    // CALL by the root
            {0, 1, 1, 0, 0},                 // SPAWN by the called instance
            {0, 1, 1, 0, 0, 0},              // SET by the grandchild
            {0, 1, 1, 0, 0, 1, 1},           // RET of the grandchild: a SYNC is next, a LOAD is supposed
            {0, 1, 1, 0, 0, 0, 0, 0},        // SYNC by the called instance
            {0, 1, 1, 0, 0, 0, 0, 0, 0},     // RET of the called instance
            {0, 0, 0, 0, 0, 0, 0, 0, 0, 0},  // SYNC by the root
        };
        for (int[] due : answers) {
            Check.due("run(1)", RUNNING, x.run(1));
            Check.concurrents(x, due);
        }
        Check.due("run(1)", DONE, x.run(1));
        Check.due("concurrent(0)", REFUSED, x.concurrent(0));
    }

    private static void supposesALoadBeforeARet() {
        SeriesParallelRace written = Check.started(SPAWN, 2, RET, 0, SET, 1);
        written.run(3);
        Check.concurrents(written, 0, 1, 1);
        SeriesParallelRace behind = Check.started(JMP, 2, RET, 0, SPAWN, 1);
        behind.run(3);
        Check.due("frame(0, 0)", 3, behind.frame(0, 0));
        Check.concurrents(behind, 0, 0, 1);
    }

    private static void answersInStoppedRuns() {
        SeriesParallelRace lasting = Check.started(SPAWN, 2, JMP, 1, SET, 1);
        for (int i = 0; i < 5; i++) {
            lasting.run(32);
        }
        Check.due("status()", OUT_OF_STEPS, lasting.status());
        int[] answers = new int[128];
        answers[1] = 1;
        answers[2] = 1;
        Check.concurrents(lasting, answers);
        Check.due("concurrent(128)", REFUSED, lasting.concurrent(128));

        SeriesParallelRace many = new SeriesParallelRace(8, 4, 4, 2);
        Check.emitAll(many, SPAWN, 2, SPAWN, 2, SET, 1);
        many.start();
        Check.due("run(32)", TOO_MANY, many.run(32));
        Check.concurrents(many, 0, 1, 1);

        SeriesParallelRace deep = new SeriesParallelRace(8, 4, 2, 4);
        Check.emitAll(deep, SPAWN, 3, CALL, 2, CALL, 0, SET, 1);
        deep.start();
        Check.due("run(32)", TOO_DEEP, deep.run(32));
        Check.concurrents(deep, 0, 1, 1, 0);
    }

    private static void changesNothing() {
        SeriesParallelRace x = Check.machine(SPAWN, 2, LOAD, 1, STORE, 1);
        x.poke(1, 6);
        x.start();
        x.run(3);
        for (int i = 0; i < 3; i++) {
            Check.concurrents(x, 0, 1, 1);
        }
        Check.level(x, 0, 1, 0, 0, 0, 0);
        Check.due("races(1)", 0, x.races(1));
        x.run(1);
        Check.masks(x, 0, 0, 0, 1);
    }
}
