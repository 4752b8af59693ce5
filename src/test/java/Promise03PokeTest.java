/** Promise 3: poke sets a cell, or is refused; it never races. */
public final class Promise03PokeTest extends Ops {
    public static void main(String[] args) {
        setsOneCell();
        refusesCellsOutside();
        refusesOutsideEdit();
        neverRaces();
        Check.end();
    }

    private static void setsOneCell() {
        SeriesParallelRace x = Check.machine(SET, 1);
        int[] values = {LEAST, -1, 7, MOST};
        for (int c = 0; c < 4; c++) {
            Check.due("poke(" + c + ", ..)", OK, x.poke(c, values[c]));
            for (int other = 0; other < 4; other++) {
                Check.due("cell(" + other + ")", other <= c ? values[other] : 0, x.cell(other));
            }
        }
        Check.due("poke(2, 8)", OK, x.poke(2, 8));
        Check.due("cell(2)", 8, x.cell(2));
        Check.due("status()", EDIT, x.status());
        Check.due("code(0, 1)", 1, x.code(0, 1));
    }

    private static void refusesCellsOutside() {
        SeriesParallelRace x = Check.machine();
        for (int c : new int[] {-1, 4, 5, 15, 16, LEAST, MOST}) {
            Check.due("poke(" + c + ", 1)", REFUSED, x.poke(c, 1));
        }
        for (int c = 0; c < 4; c++) {
            Check.due("cell(" + c + ")", 0, x.cell(c));
        }
    }

    private static void refusesOutsideEdit() {
        SeriesParallelRace x = Check.started();
        Check.due("poke while running", REFUSED, x.poke(0, 1));
        Check.due("run(1)", DONE, x.run(1));
        Check.due("poke when done", REFUSED, x.poke(0, 1));
        Check.due("cell(0)", 0, x.cell(0));
    }

    private static void neverRaces() {
        SeriesParallelRace x = Check.machine(SPAWN, 3, LOAD, 0, RET, 0, LOAD, 0);
        x.poke(0, 5);
        x.start();
        Check.due("run(32)", DONE, x.run(32));
        Check.masks(x, 0, 0, 0, 0, 0);
    }
}
