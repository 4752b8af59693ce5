/** Promise 4: start begins a run, or is refused. */
public final class Promise04StartTest extends Ops {
    public static void main(String[] args) {
        Check.holds("start() is refused if the status is not EDIT.", Promise04StartTest::refusesOutsideEdit);
        Check.holds("Otherwise a run begins: the status becomes RUNNING, there are no steps yet, and the stack holds "
            + "instance 0 alone (the root), with next address 0, A = 0, X = 0.",
            Promise04StartTest::beginsWithTheRootAlone);
        Check.holds("Cells and program stay as they are.", Promise04StartTest::keepsCellsAndProgram);
        Check.holds("An empty program is allowed.", Promise04StartTest::takesAnEmptyProgram);
        Check.holds("The answer is OK.", Promise04StartTest::answersOk);
        Check.end();
    }

    private static void refusesOutsideEdit() {
        for (int status : Machines.BEHIND_EDIT) {
            SeriesParallelRace x = Machines.in(status);
            Machines.refuses("start() in status " + status, x, x::start);
            Machines.refuses("start() again in status " + status, x, x::start);
        }
        SeriesParallelRace justStarted = Check.started(SET, 3);
        Machines.refuses("start() before the first step", justStarted, justStarted::start);
    }

    /** Also where an earlier run of the same object left other levels, numbers and registers behind. */
    private static void beginsWithTheRootAlone() {
        for (int status : Machines.STATUSES) {
            SeriesParallelRace x = Machines.in(status);
            x.reset();
            x.poke(1, 9);
            x.start();
            Check.due("status()", RUNNING, x.status());
            Check.due("steps()", 0, x.steps());
            Check.due("depth()", 1, x.depth());
            Check.level(x, 0, 0, 0, 0, 0, 0);
            Check.due("frame(1, 0)", REFUSED, x.frame(1, 0));
            Check.due("races(0)", 0, x.races(0));
            x.run(6);
            Check.masks(x, 0, 0, 0, 0, 0, 1);
            Check.stepIs(x, 2, 7, SET, 1, -1);
        }
        SeriesParallelRace moved = Check.started(SET, 4, MOVE, 5, SPAWN, 0);
        moved.run(8);
        moved.reset();
        moved.start();
        Check.level(moved, 0, 0, 0, 0, 0, 0);
    }

    private static void keepsCellsAndProgram() {
        SeriesParallelRace x = Check.machine(SET, 3, STORE, 1);
        int[] values = {LEAST, -1, 9, MOST};
        for (int c = 0; c < 4; c++) {
            x.poke(c, values[c]);
        }
        x.start();
        Check.cells(x, values);
        int[] program = {SET, 3, STORE, 1, REFUSED, REFUSED};
        for (int i = 0; i < program.length; i++) {
            Check.due("code(" + i / 2 + ", " + i % 2 + ")", program[i], x.code(i / 2, i % 2));
        }
    }

    private static void takesAnEmptyProgram() {
        SeriesParallelRace x = Check.machine();
        Check.due("start()", OK, x.start());
        Check.due("status()", RUNNING, x.status());
        Check.level(x, 0, 0, 0, 0, 0, 0);
        Check.due("run(32)", DONE, x.run(32));
        Check.due("steps()", 1, x.steps());
        Check.stepIs(x, 0, 0, RET, 0, -1);
    }

    private static void answersOk() {
        SeriesParallelRace x = Check.machine(SET, 3);
        for (int i = 0; i < 3; i++) {
            Check.due("start()", OK, x.start());
            x.reset();
        }
    }
}
