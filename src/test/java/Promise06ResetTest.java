/** Promise 6: reset forgets the run and the cells, and keeps the program, in every status. */
public final class Promise06ResetTest extends Ops {
    public static void main(String[] args) {
        Check.holds("reset() is possible in any status, EDIT included.", Promise06ResetTest::resetsInEveryStatus);
        Check.holds("The status becomes EDIT,", Promise06ResetTest::goesBackToEdit);
        Check.holds("all cells become 0 (poked values too),", Promise06ResetTest::clearsCells);
        Check.holds("and the run (steps, stack, races) is forgotten.", Promise06ResetTest::forgetsTheRun);
        Check.holds("The program stays,", Promise06ResetTest::keepsTheProgram);
        Check.holds("and further instructions can be appended to it.", Promise06ResetTest::takesMoreInstructions);
        Check.end();
    }

    /** A reset machine answers, now and in its next run, as a new one with the same program does. */
    private static void resetsInEveryStatus() {
        for (int status : Machines.STATUSES) {
            SeriesParallelRace x = Machines.in(status);
            x.reset();
            int[] once = Machines.answers(x);
            x.reset();
            Machines.same("after a second reset", once, Machines.answers(x));
            SeriesParallelRace fresh = newWithTheProgramOf(x, status);
            Machines.same("after a reset in status " + status, Machines.answers(fresh), once);
            x.start();
            fresh.start();
            for (int i = 0; i < 10; i++) {
                Check.due("run(1)", fresh.run(1), x.run(1));
                Machines.same("in the run after the reset", Machines.answers(fresh), Machines.answers(x));
            }
            Check.due("the end of the run", Check.runOut(fresh), Check.runOut(x));
            Machines.same("at the end of the run after the reset", Machines.answers(fresh), Machines.answers(x));
        }
    }

    private static SeriesParallelRace newWithTheProgramOf(SeriesParallelRace x, int status) {
        SeriesParallelRace fresh = Machines.empty(status);
        for (int at = 0; at < Machines.LENGTH; at++) {
            fresh.emit(x.code(at, 0), x.code(at, 1));
        }
        return fresh;
    }

    private static void goesBackToEdit() {
        for (int status : Machines.STATUSES) {
            SeriesParallelRace x = Machines.in(status);
            x.reset();
            Check.due("status() after reset in " + status, EDIT, x.status());
            Check.due("poke(0, 1)", OK, x.poke(0, 1));
            Check.due("start()", OK, x.start());
        }
    }

    private static void clearsCells() {
        for (int cellCount : new int[] {2, 5, 16}) {
            SeriesParallelRace x = new SeriesParallelRace(8, cellCount, 4, 4);
            Check.emitAll(x, SET, 3, STORE, 0, STORE, -1);
            for (int run = 0; run < 2; run++) {
                for (int c = 0; c < cellCount; c++) {
                    x.poke(c, 5 - c);
                }
                if (run == 1) {
                    x.start();
                    x.run(32);
                }
                x.reset();
                for (int c = 0; c < cellCount; c++) {
                    Check.due("cell(" + c + ") of " + cellCount, 0, x.cell(c));
                }
            }
        }
    }

    private static void forgetsTheRun() {
        for (int status : Machines.BEHIND_EDIT) {
            SeriesParallelRace x = Machines.in(status);
            Check.due("races(0)", 1, x.races(0));
            x.reset();
            Check.due("steps()", 0, x.steps());
            Check.due("step(0, 0)", REFUSED, x.step(0, 0));
            Check.due("racing(0)", REFUSED, x.racing(0));
            Check.due("concurrent(0)", REFUSED, x.concurrent(0));
            Check.due("depth()", 0, x.depth());
            Check.due("frame(0, 0)", REFUSED, x.frame(0, 0));
            Check.due("races(0)", 0, x.races(0));
            Check.due("firstRace(0)", -1, x.firstRace(0));
        }
        accessesAreForgotten();
        instancesAreForgotten();
    }

    /** The first run writes cell 0 in steps that the second run has other accesses in. */
    private static void accessesAreForgotten() {
        SeriesParallelRace x = Check.machine(LOAD, 3, JZ, 5, STORE, 0, STORE, 0, STORE, 0, SPAWN, 7, LOAD, 0, LOAD, 0);
        x.poke(3, 1);
        x.start();
        x.run(5);
        x.reset();
        x.start();
        Check.due("run(32)", DONE, x.run(32));
        Check.masks(x, 0, 0, 0, 0, 0, 0, 0, 0);
        x.reset();
        x.poke(3, 1);
        x.start();
        Check.due("run(32)", DONE, x.run(32));
        Check.masks(x, 0, 0, 0, 0, 0, 0, 0, 0, 0, 0, 0);
    }

    private static void instancesAreForgotten() {
        SeriesParallelRace x = new SeriesParallelRace(8, 4, 4, 3);
        Check.emitAll(x, SPAWN, 3, CALL, 3);
        for (int run = 0; run < 4; run++) {
            x.start();
            Check.due("run(32) in run " + run, DONE, x.run(32));
            Check.due("step(1, 2)", 1, x.step(1, 2));
            Check.due("step(3, 2)", 2, x.step(3, 2));
            x.reset();
        }
    }

    private static void keepsTheProgram() {
        for (int status : Machines.STATUSES) {
            SeriesParallelRace x = Machines.in(status);
            int[] program = new int[34];
            for (int i = 0; i < program.length; i++) {
                program[i] = x.code(i / 2, i % 2);
            }
            x.reset();
            for (int i = 0; i < program.length; i++) {
                Check.due("code(" + i / 2 + ", " + i % 2 + ")", program[i], x.code(i / 2, i % 2));
            }
        }
    }

    private static void takesMoreInstructions() {
        for (int status : Machines.STATUSES) {
            SeriesParallelRace x = Machines.in(status);
            x.reset();
            for (int at = Machines.LENGTH; at < 16; at++) {
                Check.due("emit(ADD, 1)", at, x.emit(ADD, 1));
            }
            Check.due("emit into a full program", REFUSED, x.emit(ADD, 1));
            Check.due("code(0, 0)", LOAD, x.code(0, 0));
        }
        // What was behind the program in the first run is an instruction in the second.
        SeriesParallelRace y = Check.started(SET, 2);
        Check.due("run(2)", DONE, y.run(2));
        y.reset();
        y.emit(STORE, 1);
        y.start();
        Check.due("run(2)", RUNNING, y.run(2));
        Check.due("cell(1)", 2, y.cell(1));
    }
}
