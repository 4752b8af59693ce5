/** Promise 3: poke sets a cell, or is refused; it never races. */
public final class Promise03PokeTest extends Ops {
    public static void main(String[] args) {
        Check.holds("poke(c, value) is refused if the status is not EDIT,", Promise03PokeTest::refusesOutsideEdit);
        Check.holds("or c is not in 0..cellCount-1.", Promise03PokeTest::refusesCellsOutside);
        Check.holds("Otherwise cell c becomes value (any int) and the answer is OK.", Promise03PokeTest::setsTheCell);
        Check.holds("Other cells, the program and the status do not change.", Promise03PokeTest::changesNothingElse);
        Check.holds("A poke is not an access and never takes part in a race.", Promise03PokeTest::neverRaces);
        Check.end();
    }

    private static void refusesOutsideEdit() {
        for (int status : Machines.BEHIND_EDIT) {
            SeriesParallelRace x = Machines.in(status);
            for (int c = -1; c <= 4; c++) {
                int one = c;
                Machines.refuses("poke(" + c + ", 77) in status " + status, x, () -> x.poke(one, 77));
            }
            x.reset();
            Check.due("poke in EDIT again", OK, x.poke(0, 77));
        }
    }

    private static void refusesCellsOutside() {
        for (int cellCount : new int[] {2, 3, 9, 15, 16}) {
            SeriesParallelRace x = new SeriesParallelRace(8, cellCount, 4, 4);
            Check.outside("poke(.., 7)", 0, cellCount - 1, REFUSED, c -> x.poke(c, 7));
            Machines.refuses("poke(-1, 7)", x, () -> x.poke(-1, 7));
            Machines.refuses("poke(" + cellCount + ", 7)", x, () -> x.poke(cellCount, 7));
            for (int c = 0; c < cellCount; c++) {
                Check.due("cell(" + c + ")", 0, x.cell(c));
            }
            Check.due("poke(0, 7)", OK, x.poke(0, 7));
            Check.due("poke(" + (cellCount - 1) + ", 7)", OK, x.poke(cellCount - 1, 7));
        }
    }

    private static void setsTheCell() {
        SeriesParallelRace x = new SeriesParallelRace(8, 16, 4, 4);
        for (int c = 0; c < 16; c++) {
            for (int value : Check.AROUND) {
                Check.due("poke(" + c + ", " + value + ")", OK, x.poke(c, value));
                Check.due("cell(" + c + ")", value, x.cell(c));
            }
        }
    }

    private static void changesNothingElse() {
        SeriesParallelRace x = Check.machine(SET, 1, STORE, -1);
        int[] values = {LEAST, -1, 7, MOST};
        for (int c = 0; c < 4; c++) {
            x.poke(c, values[c]);
            for (int other = 0; other < 4; other++) {
                Check.due("cell(" + other + ")", other <= c ? values[other] : 0, x.cell(other));
            }
        }
        Check.due("status()", EDIT, x.status());
        int[] program = {SET, 1, STORE, -1, REFUSED, REFUSED};
        for (int i = 0; i < program.length; i++) {
            Check.due("code(" + i / 2 + ", " + i % 2 + ")", program[i], x.code(i / 2, i % 2));
        }
    }

    /** A poke before the run is neither a write nor a read that any access, by whatever instance, could race with. */
    private static void neverRaces() {
        SeriesParallelRace x = Check.machine(SPAWN, 4, SPAWN, 4, LOAD, 1, RET, 0, LOAD, 0, STORE, 2, SYNC, 0);
        x.poke(2, 3);
        x.start();
        x.run(32);
        x.reset();
        for (int c = 0; c < 4; c++) {
            x.poke(c, 5);
            x.poke(c, 6);
        }
        Check.due("steps()", 0, x.steps());
        x.start();
        Check.due("run(32)", DONE, x.run(32));
        // Only the second child's STORE races, with the first child's.
        Check.masks(x, 0, 0, 0, 0, 0, 0, 0, 1, 0, 0, 0, 0);
        SeriesParallelRace y = Check.machine(SPAWN, 2, STORE, 0, LOAD, 1);
        y.poke(0, 5);
        y.start();
        y.run(32);
        for (int c = 0; c < 4; c++) {
            Check.due("races(" + c + ")", 0, y.races(c));
            Check.due("firstRace(" + c + ")", -1, y.firstRace(c));
        }
    }
}
