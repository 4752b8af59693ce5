/** Promise 14: races counts the racing steps of a cell. */
public final class Promise14RacesTest extends Ops {
    public static void main(String[] args) {
        // The child reads and writes cell 1 and writes cell 2.
        SeriesParallelRace x = Check.machine(SPAWN, 7, STORE, 1, LOAD, 2, SUM, 1, SYNC, 0, STORE, 1, RET, 0,
            LOAD, 1, STORE, 1, STORE, 2);
        races(x, 0, 0, 0, 0);
        x.start();
        races(x, 0, 0, 0, 0);
        x.run(5);
        races(x, 0, 0, 0, 0);
        x.run(1);
        Check.due("racing(5)", 3, x.racing(5));
        races(x, 0, 1, 0, 0);
        x.run(1);
        races(x, 0, 1, 1, 0);
        x.run(1);
        races(x, 0, 2, 1, 0);
        Check.due("run(32)", DONE, x.run(32));
        races(x, 0, 2, 1, 0);
        x.reset();
        races(x, 0, 0, 0, 0);
        x.start();
        races(x, 0, 0, 0, 0);
        Check.end();
    }

    private static void races(SeriesParallelRace x, int... counts) {
        for (int c = 0; c < counts.length; c++) {
            Check.due("races(" + c + ")", counts[c], x.races(c));
        }
        for (int c : new int[] {-1, counts.length, 15, 16, LEAST, MOST}) {
            Check.due("races(" + c + ")", REFUSED, x.races(c));
        }
    }
}
