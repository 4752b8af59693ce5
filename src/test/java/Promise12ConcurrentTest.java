/** Promise 12: which past steps are unordered with a LOAD of the current instance now. */
public final class Promise12ConcurrentTest extends Ops {
    public static void main(String[] args) {
        Check.holds("concurrent(k) answers REFUSED if depth() is 0", Promise12ConcurrentTest::refusesWithoutAStack);
        Check.holds("or k is not in 0..steps()-1.", Promise12ConcurrentTest::refusesStepsOutside);
        Check.holds("The answer is 1 if step k and that step would be unordered in the graph of Promise 11, 0 if not.",
            Promise12ConcurrentTest::followsARun);
        Check.holds("no matter what its next instruction really is,", Promise12ConcurrentTest::nextDoesNotMatter);
        Check.holds("and whatever the status and limits.", Promise12ConcurrentTest::limitsDoNotMatter);
        Check.holds("So it is also answered in the statuses OUT_OF_STEPS, TOO_DEEP and TOO_MANY,",
            Promise12ConcurrentTest::answersInStoppedRuns);
        Check.holds("and step k may be of any opcode.", Promise12ConcurrentTest::stepsMayBeOfAnyOpcode);
        Check.holds("it receives no edge from the RET step of a spawned instance, even if the real next instruction "
            + "is SYNC or RET.", Promise12ConcurrentTest::supposesALoadBeforeASyncOrRet);
        Check.holds("The supposed step is not executed: nothing changes.", Promise12ConcurrentTest::changesNothing);
        Check.end();
    }

    private static void refusesWithoutAStack() {
        SeriesParallelRace fresh = Check.machine(SET, 1);
        SeriesParallelRace edited = Machines.in(TOO_DEEP);
        edited.reset();
        for (int k : Check.AROUND) {
            Check.due("concurrent(" + k + ") of a new machine", REFUSED, fresh.concurrent(k));
            Check.due("concurrent(" + k + ") after reset", REFUSED, edited.concurrent(k));
            Check.due("concurrent(" + k + ") when done", REFUSED, Machines.in(DONE).concurrent(k));
        }
        SeriesParallelRace x = Check.started(SET, 1);
        x.run(1);
        Check.due("concurrent(0) before the end", 0, x.concurrent(0));
        x.run(1);
        Check.due("concurrent(0) at the end", REFUSED, x.concurrent(0));
    }

    private static void refusesStepsOutside() {
        for (int status : new int[] {RUNNING, OUT_OF_STEPS, TOO_DEEP, TOO_MANY}) {
            SeriesParallelRace x = Machines.in(status);
            Check.outside("concurrent in " + status, 0, x.steps() - 1, REFUSED, x::concurrent);
            Check.due("concurrent(0)", 0, x.concurrent(0));
            Check.due("concurrent(2)", 1, x.concurrent(2));
            Check.due("concurrent of the last step", 0, x.concurrent(x.steps() - 1));
            x.reset();
            x.start();
            Check.outside("concurrent before a step", 0, -1, REFUSED, x::concurrent);
            x.run(1);
            Check.outside("concurrent after a step", 0, 0, REFUSED, x::concurrent);
        }
    }

    private static void followsARun() {
        SeriesParallelRace x = Check.started(SPAWN, 4, CALL, 6, SYNC, 0, RET, 0, SET, 1, RET, 0, SPAWN, 4, SYNC, 0);
        int[][] answers = {
            {0},                             // SPAWN by the root
            {0, 0},                          // SET by its child
            {0, 1, 1},                       // RET of the child: now the root is asked
            {0, 1, 1, 0},                    // CALL by the root
            {0, 1, 1, 0, 0},                 // SPAWN by the called instance
            {0, 1, 1, 0, 0, 0},              // SET by the grandchild
            {0, 1, 1, 0, 0, 1, 1},           // RET of the grandchild: a SYNC is next, a LOAD is supposed
            {0, 1, 1, 0, 0, 0, 0, 0},        // SYNC by the called instance
            {0, 1, 1, 0, 0, 0, 0, 0, 0},     // RET of the called instance
            {0, 0, 0, 0, 0, 0, 0, 0, 0, 0},  // SYNC by the root
        };
        for (int[] due : answers) {
            Check.due("run(1)", RUNNING, x.run(1));
            Check.concurrents(x, due);
        }
        Check.due("run(1)", DONE, x.run(1));
        Check.due("concurrent(0)", REFUSED, x.concurrent(0));
    }

    private static void nextDoesNotMatter() {
        for (int op = RET; op <= JMP; op++) {
            // After two children, one of them awaited by a SYNC before.
            SeriesParallelRace x = Check.started(SPAWN, 5, SYNC, 0, SPAWN, 5, op, 9, RET, 0, STORE, 1);
            x.run(7);
            Check.due("frame(0, 0)", 3, x.frame(0, 0));
            Check.concurrents(x, 0, 0, 0, 0, 0, 1, 1);
            // At the beginning of a called instance, below an awaited child.
            SeriesParallelRace y = Check.started(SPAWN, 4, CALL, 3, RET, 0, op, 9, RET, 0);
            y.run(3);
            Check.concurrents(y, 0, 1, 0);
        }
        // And with nothing written at the next address.
        SeriesParallelRace behind = Check.started(SPAWN, 9);
        behind.run(2);
        Check.concurrents(behind, 0, 1);
    }

    private static void limitsDoNotMatter() {
        // 128 steps, the deepest level and the last instance, each while the status is still RUNNING.
        SeriesParallelRace lasting = Check.started(SPAWN, 2, JMP, 1, SET, 1);
        for (int i = 0; i < 4; i++) {
            lasting.run(32);
        }
        Check.due("status()", RUNNING, lasting.status());
        int[] answers = new int[128];
        answers[1] = 1;
        answers[2] = 1;
        Check.concurrents(lasting, answers);
        Check.due("concurrent(128)", REFUSED, lasting.concurrent(128));
        for (int deep = 0; deep < 2; deep++) {
            SeriesParallelRace x = new SeriesParallelRace(8, 4, deep == 1 ? 2 : 12, deep == 1 ? 32 : 3);
            Check.emitAll(x, SPAWN, 4, SPAWN, 3, RET, 0, SPAWN, 0, SET, 1);
            x.start();
            x.run(4);
            Check.due("status()", RUNNING, x.status());
            Check.concurrents(x, 0, 1, 1, 0);
        }
    }

    private static void answersInStoppedRuns() {
        SeriesParallelRace lasting = Check.started(SPAWN, 2, JMP, 1, SET, 1);
        Check.due("the end", OUT_OF_STEPS, Check.runOut(lasting));
        int[] answers = new int[128];
        answers[1] = 1;
        answers[2] = 1;
        Check.concurrents(lasting, answers);

        SeriesParallelRace many = new SeriesParallelRace(8, 4, 4, 2);
        Check.emitAll(many, SPAWN, 2, SPAWN, 2, SET, 1);
        many.start();
        Check.due("run(32)", TOO_MANY, many.run(32));
        Check.concurrents(many, 0, 1, 1);

        SeriesParallelRace deep = new SeriesParallelRace(8, 4, 2, 4);
        Check.emitAll(deep, SPAWN, 3, CALL, 2, CALL, 0, SET, 1);
        deep.start();
        Check.due("run(32)", TOO_DEEP, deep.run(32));
        Check.concurrents(deep, 0, 1, 1, 0);
    }

    /** Each opcode is executed once by a child, which is unordered, and once by the root, which is not. */
    private static void stepsMayBeOfAnyOpcode() {
        SeriesParallelRace x = Check.started(SPAWN, 3, SET, 0, SYNC, 0, LOAD, 0, STORE, 1, SUM, 2, SET, 0, ADD, 0,
            MOVE, 0, JZ, 10, JMP, 11, CALL, 13, SPAWN, 13, SYNC, 0);
        // The root's SPAWN, eight steps to the child's JMP, a CALL and a SPAWN with a SYNC and a RET each, SYNC, RET.
        x.run(17);
        Check.due("frame(0, 0)", 1, x.frame(0, 0));
        Check.due("depth()", 1, x.depth());
        boolean[] seen = new boolean[12];
        for (int k = 1; k < 17; k++) {
            Check.due("concurrent(" + k + ") of opcode " + x.step(k, 1), 1, x.concurrent(k));
            seen[x.step(k, 1)] = true;
        }
        for (int op = RET; op <= JMP; op++) {
            Check.due("opcode " + op + " among the steps", 1, seen[op] ? 1 : 0);
        }
        SeriesParallelRace y = Check.started(LOAD, 0, STORE, 1, SUM, 2, SET, 0, ADD, 0, MOVE, 0, JZ, 7, JMP, 8,
            CALL, 13, SPAWN, 13, SYNC, 0, SET, 1);
        y.run(13);
        Check.concurrents(y, new int[13]);
    }

    private static void supposesALoadBeforeASyncOrRet() {
        SeriesParallelRace sync = Check.started(SPAWN, 3, SYNC, 0, RET, 0, SET, 1);
        sync.run(3);
        Check.concurrents(sync, 0, 1, 1);
        sync.run(1);
        Check.concurrents(sync, 0, 0, 0, 0);
        SeriesParallelRace written = Check.started(SPAWN, 2, RET, 0, SET, 1);
        written.run(3);
        Check.concurrents(written, 0, 1, 1);
        SeriesParallelRace behind = Check.started(JMP, 2, RET, 0, SPAWN, 1);
        behind.run(3);
        Check.due("frame(0, 0)", 3, behind.frame(0, 0));
        Check.concurrents(behind, 0, 0, 1);
    }

    private static void changesNothing() {
        Machines.changesNothing(x -> {
            for (int k : Check.AROUND) {
                x.concurrent(k);
            }
        });
        SeriesParallelRace x = Check.machine(SPAWN, 2, LOAD, 1, STORE, 1);
        x.poke(1, 6);
        x.start();
        x.run(3);
        for (int i = 0; i < 3; i++) {
            Check.concurrents(x, 0, 1, 1);
        }
        Check.level(x, 0, 1, 0, 0, 0, 0);
        Check.due("races(1)", 0, x.races(1));
        x.run(1);
        Check.masks(x, 0, 0, 0, 1);
    }
}
