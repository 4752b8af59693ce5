/** Promise 1: the clamping of the four capacities, and the state at the start. */
public final class Promise01ConstructionTest extends Ops {
    public static void main(String[] args) {
        clampsEachAlone();
        clampsExtremes();
        startsEmpty();
        Check.end();
    }

    private static void clampsEachAlone() {
        int[][] code = {{7, 8}, {8, 8}, {9, 9}, {47, 47}, {48, 48}, {49, 48}, {0, 8}, {-1, 8}};
        for (int[] pair : code) {
            Check.due("codeCap of " + pair[0], pair[1], codeCap(new SeriesParallelRace(pair[0], 4, 4, 4)));
        }
        int[][] cells = {{1, 2}, {2, 2}, {3, 3}, {15, 15}, {16, 16}, {17, 16}, {0, 2}, {-1, 2}};
        for (int[] pair : cells) {
            Check.due("cellCount of " + pair[0], pair[1], cellCount(new SeriesParallelRace(16, pair[0], 4, 4)));
        }
        int[][] depths = {{1, 2}, {2, 2}, {3, 3}, {11, 11}, {12, 12}, {13, 12}, {0, 2}, {-1, 2}};
        for (int[] pair : depths) {
            Check.due("depthCap of " + pair[0], pair[1], depthCap(new SeriesParallelRace(16, 4, pair[0], 32)));
        }
        int[][] instances = {{1, 2}, {2, 2}, {3, 3}, {31, 31}, {32, 32}, {33, 32}, {0, 2}, {-1, 2}};
        for (int[] pair : instances) {
            Check.due("instanceCap of " + pair[0], pair[1], instanceCap(new SeriesParallelRace(16, 4, 4, pair[0])));
        }
    }

    private static void clampsExtremes() {
        Check.due("least codeCap", 8, codeCap(new SeriesParallelRace(LEAST, LEAST, LEAST, LEAST)));
        Check.due("least cellCount", 2, cellCount(new SeriesParallelRace(LEAST, LEAST, LEAST, LEAST)));
        Check.due("least depthCap", 2, depthCap(new SeriesParallelRace(LEAST, LEAST, LEAST, MOST)));
        Check.due("least instanceCap", 2, instanceCap(new SeriesParallelRace(LEAST, LEAST, LEAST, LEAST)));
        Check.due("greatest codeCap", 48, codeCap(new SeriesParallelRace(MOST, MOST, MOST, MOST)));
        Check.due("greatest cellCount", 16, cellCount(new SeriesParallelRace(MOST, MOST, MOST, MOST)));
        Check.due("greatest depthCap", 12, depthCap(new SeriesParallelRace(MOST, MOST, MOST, MOST)));
        Check.due("greatest instanceCap", 32, instanceCap(new SeriesParallelRace(MOST, MOST, MOST, MOST)));
    }

    private static void startsEmpty() {
        SeriesParallelRace x = new SeriesParallelRace(48, 16, 12, 32);
        Check.due("status()", EDIT, x.status());
        Check.due("code(0, 0)", REFUSED, x.code(0, 0));
        Check.due("steps()", 0, x.steps());
        Check.due("depth()", 0, x.depth());
        for (int c = 0; c < 16; c++) {
            Check.due("cell(" + c + ")", 0, x.cell(c));
            Check.due("races(" + c + ")", 0, x.races(c));
            Check.due("firstRace(" + c + ")", -1, x.firstRace(c));
        }
        Check.due("emit(RET, 0)", 0, x.emit(RET, 0));
    }

    private static int codeCap(SeriesParallelRace x) {
        int length = 0;
        while (length < 100 && x.emit(RET, 0) == length) {
            length++;
        }
        return length;
    }

    private static int cellCount(SeriesParallelRace x) {
        int count = 0;
        while (count < 100 && x.poke(count, 1) == OK) {
            count++;
        }
        return count;
    }

    /** A program that calls itself without end stops with the stack full. */
    private static int depthCap(SeriesParallelRace x) {
        x.emit(CALL, 0);
        x.start();
        Check.due("run(32)", TOO_DEEP, x.run(32));
        return x.depth();
    }

    /** A program that spawns an empty child over and over stops with all instances made. */
    private static int instanceCap(SeriesParallelRace x) {
        x.emit(SPAWN, 2);
        x.emit(JMP, 0);
        x.start();
        for (int i = 0; i < 10 && x.run(32) == RUNNING; i++) {
            continue;
        }
        Check.due("status()", TOO_MANY, x.status());
        int spawns = 0;
        for (int k = 0; k < x.steps(); k++) {
            spawns += x.step(k, 1) == SPAWN ? 1 : 0;
        }
        return spawns + 1;
    }
}
