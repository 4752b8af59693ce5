/** Promise 10: step shows address, opcode, instance and cell of a step. */
public final class Promise10StepTest extends Ops {
    public static void main(String[] args) {
        Check.holds("step(k, what) answers REFUSED if k is not in 0..steps()-1",
            Promise10StepTest::refusesStepsOutside);
        Check.holds("or what is not in 0..3.", Promise10StepTest::refusesOtherQuestions);
        Check.holds("the address of its instruction", () -> showsEachStep(0));
        Check.holds("(it can be >= length, the step then being a RET);", Promise10StepTest::showsAddressesBehind);
        Check.holds("the opcode executed", () -> showsEachStep(1));
        Check.holds("(RET for an address >= length);", Promise10StepTest::showsRetBehind);
        Check.holds("the number of the instance that executed it;", () -> showsEachStep(2));
        Check.holds("the cell it read or wrote,", () -> showsEachStep(3));
        Check.holds("or -1 if it is not an access.", Promise10StepTest::showsNoCellOfOtherSteps);
        Check.holds("It changes nothing.", () -> Machines.changesNothing(x -> {
            for (int k : Check.AROUND) {
                for (int what = -1; what <= 4; what++) {
                    x.step(k, what);
                }
            }
        }));
        Check.end();
    }

    private static void refusesStepsOutside() {
        for (int what = 0; what <= 3; what++) {
            int one = what;
            for (int status : Machines.STATUSES) {
                SeriesParallelRace x = Machines.in(status);
                int last = Machines.stepsIn(status) - 1;
                Check.outside("step(.., " + what + ") in " + status, 0, last, REFUSED, k -> x.step(k, one));
                x.reset();
                Check.outside("step(.., " + what + ") after reset", 0, -1, REFUSED, k -> x.step(k, one));
                x.start();
                Check.outside("step(.., " + what + ") after start", 0, -1, REFUSED, k -> x.step(k, one));
                x.run(2);
                Check.outside("step(.., " + what + ") of two", 0, 1, REFUSED, k -> x.step(k, one));
                Check.due("step(1, 0)", 1, x.step(1, 0));
            }
        }
        // The last step of the longest run is within.
        Check.stepIs(Machines.in(OUT_OF_STEPS), 127, 3, JMP, 0, -1);
    }

    private static void refusesOtherQuestions() {
        for (int status : Machines.BEHIND_EDIT) {
            SeriesParallelRace x = Machines.in(status);
            for (int k = -1; k <= Machines.stepsIn(status); k++) {
                int one = k;
                Check.outside("step(" + k + ", ..) in " + status, 0, 3, REFUSED, what -> x.step(one, what));
            }
        }
    }

    private static void showsEachStep(int what) {
        SeriesParallelRace x = Check.started(MOVE, 1, CALL, 5, SPAWN, 9, SYNC, 0, JMP, 12,
            LOAD, 0, SUM, -2, STORE, 6, RET, 0, SET, 1, JZ, 0);
        int[][] steps = {{0, MOVE, 0, -1}, {1, CALL, 0, -1}, {5, LOAD, 1, 1}, {6, SUM, 1, 3}, {7, STORE, 1, 3},
            {8, RET, 1, -1}, {2, SPAWN, 0, -1}, {9, SET, 2, -1}, {10, JZ, 2, -1}, {11, RET, 2, -1},
            {3, SYNC, 0, -1}, {4, JMP, 0, -1}, {12, RET, 0, -1}};
        for (int count = 1; count <= steps.length; count++) {
            x.run(1);
            for (int k = 0; k < count; k++) {
                Check.due("step(" + k + ", " + what + ")", steps[k][what], x.step(k, what));
            }
        }
        Check.due("status()", DONE, x.status());
    }

    private static void showsAddressesBehind() {
        for (int target = 1; target < 16; target++) {
            SeriesParallelRace x = Check.started(JMP, target);
            x.run(2);
            Check.stepIs(x, 1, target, RET, 0, -1);
        }
    }

    /** The address behind the program keeps nothing of an instruction, nor of the step that had the same number. */
    private static void showsRetBehind() {
        SeriesParallelRace x = Check.started(JZ, 9, STORE, 2);
        x.run(2);
        Check.stepIs(x, 1, 9, RET, 0, -1);
        SeriesParallelRace y = Check.machine(LOAD, 1, JZ, 4, STORE, 2);
        y.poke(1, 5);
        y.start();
        y.run(32);
        Check.stepIs(y, 2, 2, STORE, 0, 2);
        y.reset();
        y.start();
        y.run(32);
        Check.stepIs(y, 2, 4, RET, 0, -1);
    }

    private static void showsNoCellOfOtherSteps() {
        for (int op : new int[] {RET, SYNC, SPAWN, CALL, SET, ADD, MOVE, JZ, JMP}) {
            SeriesParallelRace x = Check.started(op, 2);
            x.run(1);
            Check.stepIs(x, 0, 0, op, 0, -1);
        }
    }
}
