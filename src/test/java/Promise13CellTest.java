/** Promise 13: cell answers a cell's value in any status, and 0 outside. */
public final class Promise13CellTest extends Ops {
    public static void main(String[] args) {
        SeriesParallelRace x = Check.machine(SPAWN, 4, LOAD, 2, STORE, 1, RET, 0, SET, -1, STORE, 3);
        x.poke(2, MOST);
        cells(x, 0, 0, MOST, 0);
        x.start();
        cells(x, 0, 0, MOST, 0);
        x.run(3);
        cells(x, 0, 0, MOST, -1);
        x.run(3);
        cells(x, 0, MOST, MOST, -1);
        Check.due("run(1)", DONE, x.run(1));
        cells(x, 0, MOST, MOST, -1);
        Check.masks(x, 0, 0, 0, 0, 0, 0, 0);
        x.reset();
        cells(x, 0, 0, 0, 0);

        SeriesParallelRace deep = new SeriesParallelRace(8, 2, 2, 4);
        Check.emitAll(deep, SET, 8, STORE, 1, CALL, 0);
        deep.start();
        Check.due("run(32)", TOO_DEEP, deep.run(32));
        cells(deep, 0, 8);
        Check.end();
    }

    /** A cell outside is 0 even where the greatest machine would have one. */
    private static void cells(SeriesParallelRace x, int... values) {
        for (int c = 0; c < values.length; c++) {
            Check.due("cell(" + c + ")", values[c], x.cell(c));
        }
        for (int c : new int[] {-1, values.length, 15, 16, 17, LEAST, MOST}) {
            Check.due("cell(" + c + ")", 0, x.cell(c));
        }
    }
}
