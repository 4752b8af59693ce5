/** Promise 13: cell answers a cell's value in any status, and 0 outside. */
public final class Promise13CellTest extends Ops {
    public static void main(String[] args) {
        Check.holds("cell(c) answers the value of cell c in any status;", Promise13CellTest::answersInAnyStatus);
        Check.holds("0 if c is not in 0..cellCount-1.", Promise13CellTest::isZeroOutside);
        Check.holds("It changes nothing,", () -> Machines.changesNothing(x -> {
            for (int c : Check.AROUND) {
                x.cell(c);
            }
        }));
        Check.holds("and is not an access.", Promise13CellTest::isNoAccess);
        Check.end();
    }

    private static void answersInAnyStatus() {
        SeriesParallelRace edited = Machines.in(EDIT);
        Check.cells(edited, 0, 9, 0, -1);
        for (int status : Machines.BEHIND_EDIT) {
            Check.cells(Machines.in(status), 9, 9, 0, -1);
        }
        SeriesParallelRace x = Check.machine(SPAWN, 4, LOAD, 2, STORE, 1, RET, 0, SET, LEAST, STORE, 3);
        x.poke(2, MOST);
        x.start();
        Check.cells(x, 0, 0, MOST, 0);
        x.run(3);
        Check.cells(x, 0, 0, MOST, LEAST);
        x.run(3);
        Check.cells(x, 0, MOST, MOST, LEAST);
    }

    /** Also where the greatest machine would have a cell, and where all cells that there are hold something. */
    private static void isZeroOutside() {
        for (int cellCount = 2; cellCount <= 16; cellCount++) {
            SeriesParallelRace x = new SeriesParallelRace(8, cellCount, 4, 4);
            for (int c = 0; c < 17; c++) {
                x.poke(c, 7);
            }
            Check.outside("cell of " + cellCount, 0, cellCount - 1, 0, x::cell);
            Check.due("cell(0)", 7, x.cell(0));
            Check.due("cell(cellCount - 1)", 7, x.cell(cellCount - 1));
            x.start();
            Check.outside("cell of " + cellCount + " in a run", 0, cellCount - 1, 0, x::cell);
        }
        for (int status : Machines.STATUSES) {
            Check.outside("cell in " + status, 0, 3, 0, Machines.in(status)::cell);
        }
    }

    /** Asked before a parent's STORE, it is neither a step nor a read that this could race with. */
    private static void isNoAccess() {
        SeriesParallelRace x = Check.started(SPAWN, 2, STORE, 1, SYNC, 0);
        for (int k = 0; k < 3; k++) {
            x.run(1);
            for (int c = 0; c < 4; c++) {
                x.cell(c);
            }
            Check.due("steps()", k + 1, x.steps());
        }
        x.run(1);
        Check.masks(x, 0, 0, 0, 0);
        Check.due("races(1)", 0, x.races(1));
    }
}
