/** Promise 14: races counts the racing steps of a cell. */
public final class Promise14RacesTest extends Ops {
    public static void main(String[] args) {
        Check.holds("races(c) answers REFUSED if c is not in 0..cellCount-1,", Promise14RacesTest::refusesCellsOutside);
        Check.holds("otherwise the number of racing steps of the run that access cell c.",
            Promise14RacesTest::countsRacingSteps);
        Check.holds("A step with mask 3 counts once.", Promise14RacesTest::countsMaskThreeOnce);
        Check.holds("Without a run (status EDIT) the number is 0.", Promise14RacesTest::isZeroInEdit);
        Check.holds("It changes nothing.", () -> Machines.changesNothing(x -> {
            for (int c : Check.AROUND) {
                x.races(c);
            }
        }));
        Check.end();
    }

    private static void refusesCellsOutside() {
        for (int status : Machines.STATUSES) {
            Check.outside("races in " + status, 0, 3, REFUSED, Machines.in(status)::races);
        }
        for (int cellCount = 2; cellCount <= 16; cellCount++) {
            SeriesParallelRace x = new SeriesParallelRace(8, cellCount, 4, 4);
            Check.outside("races of " + cellCount, 0, cellCount - 1, REFUSED, x::races);
            Check.due("races(0)", 0, x.races(0));
            Check.due("races(cellCount - 1)", 0, x.races(cellCount - 1));
        }
    }

    /** The child reads and writes cell 1 and writes cell 2; what comes after the SYNC does not race. */
    private static void countsRacingSteps() {
        SeriesParallelRace x = Check.started(SPAWN, 7, STORE, 1, LOAD, 2, SUM, 1, SYNC, 0, STORE, 1, RET, 0,
            LOAD, 1, STORE, 1, STORE, 2);
        int[][] counts = {{0, 0, 0, 0}, {0, 0, 0, 0}, {0, 0, 0, 0}, {0, 0, 0, 0}, {0, 0, 0, 0}, {0, 1, 0, 0},
            {0, 1, 1, 0}, {0, 2, 1, 0}, {0, 2, 1, 0}, {0, 2, 1, 0}, {0, 2, 1, 0}};
        for (int[] due : counts) {
            x.run(1);
            for (int c = 0; c < 4; c++) {
                Check.due("races(" + c + ") after " + x.steps() + " steps", due[c], x.races(c));
            }
        }
        Check.due("status()", DONE, x.status());
        // The number stays in whatever status the run stopped.
        for (int status : Machines.BEHIND_EDIT) {
            Check.due("races(0) in " + status, 1, Machines.in(status).races(0));
            Check.due("races(1) in " + status, 0, Machines.in(status).races(1));
        }
        // Each STORE of the parent's loop races with the child's, to the end of the longest run.
        SeriesParallelRace many = Check.started(SPAWN, 4, STORE, 3, STORE, 3, JMP, 1, STORE, 3);
        Check.due("the end", OUT_OF_STEPS, Check.runOut(many));
        Check.due("races(3)", 84, many.races(3));
    }

    private static void countsMaskThreeOnce() {
        SeriesParallelRace x = Check.started(SPAWN, 4, STORE, 2, STORE, 2, RET, 0, LOAD, 2, STORE, 2);
        Check.due("run(32)", DONE, x.run(32));
        Check.masks(x, 0, 0, 0, 0, 3, 3, 0);
        Check.due("races(2)", 2, x.races(2));
    }

    private static void isZeroInEdit() {
        for (int status : Machines.STATUSES) {
            SeriesParallelRace x = Machines.in(status);
            x.reset();
            for (int c = 0; c < 4; c++) {
                Check.due("races(" + c + ") after reset in " + status, 0, x.races(c));
            }
            x.start();
            Check.due("races(0) of a run without steps", 0, x.races(0));
        }
        Check.due("races(0) of a new machine", 0, Check.machine().races(0));
    }
}
