/** Promise 5, the call: slices, the three limits and their order. */
public final class Promise05RunTest extends Ops {
    public static void main(String[] args) {
        refusesUnlessRunning();
        clampsTheSlice();
        stopsAtMaxSteps();
        endsWithTheVeryLastStep();
        stopsWhenTooDeep();
        stopsWhenTooMany();
        countsEndedInstances();
        looksAtTheLimitsInOrder();
        keepsEarlierStepsOfTheCall();
        Check.end();
    }

    private static void refusesUnlessRunning() {
        SeriesParallelRace x = Check.machine();
        for (int n : new int[] {0, 1, -1, 33, LEAST, MOST}) {
            Check.due("run(" + n + ") in EDIT", REFUSED, x.run(n));
        }
        x.start();
        Check.due("run(1)", DONE, x.run(1));
        for (int n : new int[] {0, 1, -1, 33, LEAST, MOST}) {
            Check.due("run(" + n + ") when done", REFUSED, x.run(n));
        }
        Check.due("steps()", 1, x.steps());
    }

    private static void clampsTheSlice() {
        int[][] slices = {{0, 0}, {-1, 0}, {LEAST, 0}, {1, 1}, {2, 2}, {31, 31}, {32, 32}, {33, 32}, {MOST, 32}};
        for (int[] slice : slices) {
            SeriesParallelRace x = Check.started(JMP, 0);
            Check.due("run(" + slice[0] + ")", RUNNING, x.run(slice[0]));
            Check.due("steps()", slice[1], x.steps());
        }
    }

    private static SeriesParallelRace after128(int... program) {
        SeriesParallelRace x = Check.started(program);
        for (int i = 0; i < 4; i++) {
            Check.due("run(32)", RUNNING, x.run(32));
        }
        Check.due("steps()", 128, x.steps());
        return x;
    }

    private static void stopsAtMaxSteps() {
        SeriesParallelRace x = after128(ADD, 1, JMP, 0);
        Check.due("run(0)", RUNNING, x.run(0));
        Check.due("run(-5)", RUNNING, x.run(-5));
        Check.due("status()", RUNNING, x.status());
        Check.due("run(1)", OUT_OF_STEPS, x.run(1));
        Check.due("status()", OUT_OF_STEPS, x.status());
        Check.due("steps()", 128, x.steps());
        Check.level(x, 0, 0, 0, 64, 0, 0);
        Check.due("run(1)", REFUSED, x.run(1));
        Check.due("run(0)", REFUSED, x.run(0));
        SeriesParallelRace y = Check.started(ADD, 1, JMP, 0);
        y.run(31);
        for (int i = 0; i < 3; i++) {
            y.run(32);
        }
        Check.due("run(32) with one step left", OUT_OF_STEPS, y.run(32));
        Check.due("steps()", 128, y.steps());
    }

    /** 127 steps before the root's RET: JZ leaves the loop when A has come to 0. */
    private static void endsWithTheVeryLastStep() {
        SeriesParallelRace x = new SeriesParallelRace(16, 4, 6, 12);
        Check.emitAll(x, SET, -41, MOVE, 0, JZ, 5, ADD, 1, JMP, 2, MOVE, 0);
        x.start();
        for (int i = 0; i < 3; i++) {
            Check.due("run(32)", RUNNING, x.run(32));
        }
        Check.due("run(31)", RUNNING, x.run(31));
        Check.due("steps()", 127, x.steps());
        Check.due("frame(0, 0)", 6, x.frame(0, 0));
        Check.due("run(1)", DONE, x.run(1));
        Check.due("steps()", 128, x.steps());
        Check.due("depth()", 0, x.depth());
    }

    private static void stopsWhenTooDeep() {
        for (int op : new int[] {SPAWN, CALL}) {
            SeriesParallelRace x = new SeriesParallelRace(8, 4, 3, 32);
            Check.emitAll(x, ADD, 1, op, 0);
            x.start();
            Check.due("run(5)", RUNNING, x.run(5));
            Check.due("depth()", 3, x.depth());
            Check.due("run(0)", RUNNING, x.run(0));
            Check.due("run(1)", TOO_DEEP, x.run(1));
            Check.due("steps()", 5, x.steps());
            Check.due("depth()", 3, x.depth());
            Check.level(x, 2, 1, 2, 3, 0, op == SPAWN ? 1 : 0);
            Check.due("run(1)", REFUSED, x.run(1));
        }
    }

    private static void stopsWhenTooMany() {
        for (int op : new int[] {SPAWN, CALL}) {
            SeriesParallelRace x = new SeriesParallelRace(8, 4, 12, 3);
            Check.emitAll(x, op, 0);
            x.start();
            Check.due("run(2)", RUNNING, x.run(2));
            Check.due("run(1)", TOO_MANY, x.run(1));
            Check.due("steps()", 2, x.steps());
            Check.due("depth()", 3, x.depth());
            Check.level(x, 2, 0, 2, 0, 0, op == SPAWN ? 1 : 0);
        }
    }

    private static void countsEndedInstances() {
        SeriesParallelRace x = new SeriesParallelRace(8, 4, 12, 3);
        Check.emitAll(x, CALL, 4, SPAWN, 4, SET, 2, CALL, 4);
        x.start();
        Check.due("run(32)", TOO_MANY, x.run(32));
        Check.due("steps()", 5, x.steps());
        Check.due("depth()", 1, x.depth());
        Check.level(x, 0, 3, 0, 2, 0, 0);
    }

    private static void looksAtTheLimitsInOrder() {
        SeriesParallelRace x = new SeriesParallelRace(8, 4, 3, 3);
        Check.emitAll(x, SPAWN, 0);
        x.start();
        Check.due("both full", TOO_DEEP, x.run(32));
        // Both levels and both instances are used, and 128 steps, when the second SPAWN comes.
        SeriesParallelRace y = new SeriesParallelRace(16, 4, 2, 2);
        Check.emitAll(y, SPAWN, 1, SET, -40, MOVE, 0, JZ, 6, ADD, 1, JMP, 3, MOVE, 0, MOVE, 0, MOVE, 0, MOVE, 0, SPAWN, 0);
        y.start();
        for (int i = 0; i < 4; i++) {
            Check.due("run(32)", RUNNING, y.run(32));
        }
        Check.due("frame(1, 0)", 10, y.frame(1, 0));
        Check.due("all full", OUT_OF_STEPS, y.run(1));
    }

    private static void keepsEarlierStepsOfTheCall() {
        SeriesParallelRace x = new SeriesParallelRace(8, 4, 2, 32);
        Check.emitAll(x, SET, 6, CALL, 2, STORE, 3, SPAWN, 0);
        x.start();
        Check.due("run(32)", TOO_DEEP, x.run(32));
        Check.due("steps()", 3, x.steps());
        Check.due("cell(3)", 6, x.cell(3));
        Check.stepIs(x, 2, 2, STORE, 1, 3);
        Check.level(x, 1, 3, 1, 6, 0, 0);
    }
}
