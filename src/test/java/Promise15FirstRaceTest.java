/** Promise 15: firstRace answers the first racing step of a cell. */
public final class Promise15FirstRaceTest extends Ops {
    public static void main(String[] args) {
        SeriesParallelRace x = Check.machine(SPAWN, 7, LOAD, 3, STORE, 1, STORE, 1, LOAD, 2, RET, 0, RET, 0,
            LOAD, 3, LOAD, 1, STORE, 2);
        firsts(x, -1, -1, -1, -1);
        x.start();
        firsts(x, -1, -1, -1, -1);
        x.run(6);
        firsts(x, -1, -1, -1, -1);
        x.run(1);
        firsts(x, -1, 6, -1, -1);
        x.run(1);
        Check.due("racing(7)", 2, x.racing(7));
        firsts(x, -1, 6, -1, -1);
        x.run(1);
        firsts(x, -1, 6, 8, -1);
        Check.due("run(32)", DONE, x.run(32));
        firsts(x, -1, 6, 8, -1);
        x.reset();
        firsts(x, -1, -1, -1, -1);
        x.start();
        firsts(x, -1, -1, -1, -1);
        Check.end();
    }

    private static void firsts(SeriesParallelRace x, int... steps) {
        for (int c = 0; c < steps.length; c++) {
            Check.due("firstRace(" + c + ")", steps[c], x.firstRace(c));
        }
        for (int c : new int[] {-1, steps.length, 15, 16, LEAST, MOST}) {
            Check.due("firstRace(" + c + ")", -1, x.firstRace(c));
        }
    }
}
