/** Promise 4: start begins a run, or is refused. */
public final class Promise04StartTest extends Ops {
    public static void main(String[] args) {
        beginsWithTheRootAlone();
        takesAnEmptyProgram();
        refusesOutsideEdit();
        beginsAfresh();
        Check.end();
    }

    private static void beginsWithTheRootAlone() {
        SeriesParallelRace x = Check.machine(SET, 3, STORE, 1);
        x.poke(2, 9);
        Check.due("start()", OK, x.start());
        Check.due("status()", RUNNING, x.status());
        Check.due("steps()", 0, x.steps());
        Check.due("depth()", 1, x.depth());
        Check.level(x, 0, 0, 0, 0, 0, 0);
        Check.due("cell(1)", 0, x.cell(1));
        Check.due("cell(2)", 9, x.cell(2));
        Check.due("code(0, 0)", SET, x.code(0, 0));
        Check.due("code(1, 0)", STORE, x.code(1, 0));
    }

    private static void takesAnEmptyProgram() {
        SeriesParallelRace x = Check.started();
        Check.due("status()", RUNNING, x.status());
        Check.due("run(1)", DONE, x.run(1));
        Check.due("steps()", 1, x.steps());
        Check.stepIs(x, 0, 0, RET, 0, -1);
    }

    private static void refusesOutsideEdit() {
        SeriesParallelRace x = Check.started(SET, 3, ADD, 1);
        x.run(1);
        Check.due("start() while running", REFUSED, x.start());
        Check.due("steps()", 1, x.steps());
        Check.level(x, 0, 1, 0, 3, 0, 0);
        Check.due("run(32)", DONE, x.run(32));
        Check.due("start() when done", REFUSED, x.start());
        Check.due("status()", DONE, x.status());
        Check.due("steps()", 3, x.steps());
    }

    /** A second run of the same object must not see the first one's levels, numbers or accesses. */
    private static void beginsAfresh() {
        SeriesParallelRace x = Check.started(MOVE, 1, SET, 4, SPAWN, 4, LOAD, 0, STORE, 0);
        for (int i = 0; i < 3; i++) {
            Check.due("run(8)", DONE, x.run(8));
            Check.masks(x, 0, 0, 0, 0, 0, 1, 1, 0);
            x.reset();
            Check.due("start()", OK, x.start());
            Check.level(x, 0, 0, 0, 0, 0, 0);
            Check.due("run(3)", RUNNING, x.run(3));
            Check.level(x, 1, 4, 1, 4, 1, 1);
            x.reset();
            Check.due("start()", OK, x.start());
        }
    }
}
