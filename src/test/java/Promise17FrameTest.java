/** Promise 17: frame shows the levels of the stack. */
public final class Promise17FrameTest extends Ops {
    public static void main(String[] args) {
        SeriesParallelRace x = Check.machine(SET, -1, MOVE, -1, CALL, 5, SPAWN, 15, RET, 0,
            SET, 8, SPAWN, 8, RET, 0, MOVE, 4, CALL, 11);
        refusesAll(x, 0);
        x.start();
        Check.level(x, 0, 0, 0, 0, 0, 0);
        refusesAll(x, 1);
        Check.due("run(7)", RUNNING, x.run(7));
        Check.due("depth()", 4, x.depth());
        Check.level(x, 0, 3, 0, -1, -1, 0);
        Check.level(x, 1, 7, 1, 8, -1, 0);
        Check.level(x, 2, 10, 2, 8, 3, 1);
        Check.level(x, 3, 11, 3, 8, 3, 0);
        refusesAll(x, 4);
        // Three instances end; the root then makes a fourth one on a level used before.
        x.run(3);
        Check.due("depth()", 1, x.depth());
        Check.level(x, 0, 3, 0, 8, -1, 0);
        refusesAll(x, 1);
        x.run(1);
        Check.level(x, 1, 15, 4, 8, -1, 1);
        refusesAll(x, 2);
        Check.due("run(2)", DONE, x.run(2));
        refusesAll(x, 0);
        x.reset();
        refusesAll(x, 0);
        whenStopped();
        Check.end();
    }

    private static void whenStopped() {
        SeriesParallelRace x = new SeriesParallelRace(8, 4, 2, 4);
        Check.emitAll(x, ADD, 5, SPAWN, 0);
        x.start();
        Check.due("run(32)", TOO_DEEP, x.run(32));
        Check.level(x, 0, 2, 0, 5, 0, 0);
        Check.level(x, 1, 1, 1, 10, 0, 1);
        refusesAll(x, 2);
    }

    private static void refusesAll(SeriesParallelRace x, int depth) {
        for (int what = 0; what < 5; what++) {
            for (int level : new int[] {-1, depth, 11, 12, LEAST, MOST}) {
                Check.due("frame(" + level + ", " + what + ")", REFUSED, x.frame(level, what));
            }
        }
        for (int what : new int[] {-1, 5, 6, LEAST, MOST}) {
            Check.due("frame(0, " + what + ")", REFUSED, x.frame(0, what));
        }
    }
}
