/** Promise 10: step shows address, opcode, instance and cell of a step. */
public final class Promise10StepTest extends Ops {
    public static void main(String[] args) {
        SeriesParallelRace x = Check.machine(MOVE, 1, CALL, 5, SPAWN, 9, SYNC, 0, JMP, 12,
            LOAD, 0, SUM, -2, STORE, 6, RET, 0, SET, 1, JZ, 0);
        Check.due("step(0, 0) in EDIT", REFUSED, x.step(0, 0));
        x.start();
        Check.due("step(0, 0) before a step", REFUSED, x.step(0, 0));
        Check.due("run(32)", DONE, x.run(32));
        int[][] steps = {{0, MOVE, 0, -1}, {1, CALL, 0, -1}, {5, LOAD, 1, 1}, {6, SUM, 1, 3}, {7, STORE, 1, 3},
            {8, RET, 1, -1}, {2, SPAWN, 0, -1}, {9, SET, 2, -1}, {10, JZ, 2, -1}, {11, RET, 2, -1},
            {3, SYNC, 0, -1}, {4, JMP, 0, -1}, {12, RET, 0, -1}};
        Check.due("steps()", steps.length, x.steps());
        for (int k = 0; k < steps.length; k++) {
            Check.stepIs(x, k, steps[k]);
            for (int what : new int[] {-1, 4, 5, LEAST, MOST}) {
                Check.due("step(" + k + ", " + what + ")", REFUSED, x.step(k, what));
            }
        }
        for (int k : new int[] {-1, steps.length, 127, 128, LEAST, MOST}) {
            for (int what = 0; what < 4; what++) {
                Check.due("step(" + k + ", " + what + ")", REFUSED, x.step(k, what));
            }
        }
        afterAShorterRun(x);
        Check.end();
    }

    /** Steps of a forgotten run must not be shown for those not yet executed. */
    private static void afterAShorterRun(SeriesParallelRace x) {
        x.reset();
        Check.due("step(0, 0) after reset", REFUSED, x.step(0, 0));
        x.start();
        x.run(2);
        Check.stepIs(x, 1, 1, CALL, 0, -1);
        Check.due("step(2, 0)", REFUSED, x.step(2, 0));
    }
}
