/** Promise 1: the clamping of the four capacities, and the state at the start. */
public final class Promise01ConstructionTest extends Ops {
    private static final String[] NAMES = {"codeCap", "cellCount", "depthCap", "instanceCap"};
    private static final int[] LEASTS = {8, 2, 2, 2};
    private static final int[] GREATESTS = {48, 16, 12, 32};

    public static void main(String[] args) {
        Check.holds("clamps them: codeCap to 8..48, cellCount to 2..16, depthCap to 2..12, instanceCap to 2..32.",
            Promise01ConstructionTest::valuesWithinAreTaken);
        Check.holds("A value below the least becomes the least;", Promise01ConstructionTest::tooSmallBecomesLeast);
        Check.holds("a value above the greatest becomes the greatest.",
            Promise01ConstructionTest::tooLargeBecomesGreatest);
        Check.holds("The constructor takes any four ints", Promise01ConstructionTest::anyFourIntsAreTaken);
        Check.holds("Afterwards these four never change;", Promise01ConstructionTest::capacitiesNeverChange);
        Check.holds("wherever this document names them, the clamped values are meant.",
            Promise01ConstructionTest::clampedValuesAreMeant);
        Check.holds("At the start the status is EDIT, the program is empty (length 0), all cells are 0, "
            + "and there is no run: no steps, an empty stack, no races.", Promise01ConstructionTest::startsEmpty);
        Check.end();
    }

    /** What one capacity is, the others being given values within their ranges that leave it room to show. */
    private static void clampsTo(int which, int given, int want) {
        int[] capacities = {20, 4, 12, 32};
        if (which == 3) {
            capacities[2] = 2;
        }
        capacities[which] = given;
        SeriesParallelRace x =
            new SeriesParallelRace(capacities[0], capacities[1], capacities[2], capacities[3]);
        Check.due(NAMES[which] + " of " + given, want, measured(which, x));
    }

    private static void valuesWithinAreTaken() {
        for (int which = 0; which < 4; which++) {
            for (int value = LEASTS[which]; value <= GREATESTS[which]; value++) {
                clampsTo(which, value, value);
            }
        }
    }

    private static void tooSmallBecomesLeast() {
        for (int which = 0; which < 4; which++) {
            for (int value : new int[] {LEASTS[which] - 1, 1, 0, -1, -8, -100, LEAST + 1, LEAST}) {
                clampsTo(which, value, LEASTS[which]);
            }
        }
    }

    private static void tooLargeBecomesGreatest() {
        for (int which = 0; which < 4; which++) {
            for (int value : new int[] {GREATESTS[which] + 1, 49, 100, 256, 65544, MOST - 1, MOST}) {
                clampsTo(which, value, GREATESTS[which]);
            }
        }
    }

    private static void anyFourIntsAreTaken() {
        int[] values = {LEAST, -1, 0, 7, 40, MOST};
        for (int code : values) {
            for (int cells : values) {
                for (int depth : values) {
                    for (int instances : values) {
                        int[] given = {code, cells, depth, instances};
                        SeriesParallelRace x = new SeriesParallelRace(code, cells, depth, instances);
                        for (int which = 0; which < 2; which++) {
                            int want = Math.max(LEASTS[which], Math.min(GREATESTS[which], given[which]));
                            Check.due(NAMES[which] + " of " + given[which], want, measured(which, x));
                        }
                    }
                }
            }
        }
    }

    /** The program tells depthCap if cell 0 is 0 and instanceCap if it is not; it is asked in turns. */
    private static void capacitiesNeverChange() {
        SeriesParallelRace x = new SeriesParallelRace(11, 3, 4, 6);
        Check.emitAll(x, LOAD, 0, JZ, 4, SPAWN, 9, JMP, 2, CALL, 4);
        for (int i = 0; i < 3; i++) {
            x.start();
            Check.due("a program that only calls", TOO_DEEP, Check.runOut(x));
            Check.due("depthCap", 4, x.depth());
            x.reset();
            Check.due("cellCount", 3, cellCount(x));
            x.start();
            Check.due("a program that only spawns", TOO_MANY, Check.runOut(x));
            Check.due("instanceCap", 6, spawned(x) + 1);
            x.reset();
            Check.due("emit to an address outside", REFUSED, x.emit(JMP, 11));
            Check.due("emit to the last address", 5 + i, x.emit(JMP, 10));
        }
        for (int at = 8; at < 11; at++) {
            Check.due("emit(RET, 0)", at, x.emit(RET, 0));
        }
        Check.due("emit into a full program", REFUSED, x.emit(RET, 0));
    }

    private static void clampedValuesAreMeant() {
        SeriesParallelRace least = new SeriesParallelRace(-5, 0, 1, 0);
        Check.due("target 8 of 8 addresses", REFUSED, least.emit(JMP, 8));
        Check.emitAll(least, LOAD, -1, LOAD, 2, LOAD, 3, JMP, 7);
        Check.due("poke(2, 1) of 2 cells", REFUSED, least.poke(2, 1));
        least.start();
        least.run(4);
        Check.due("the cell of -1 among 2", 1, least.step(0, 3));
        Check.due("the cell of 2 among 2", 0, least.step(1, 3));
        Check.due("the cell of 3 among 2", 1, least.step(2, 3));
        Check.due("races(2) of 2 cells", REFUSED, least.races(2));
        Check.due("frame(0, 0)", 7, least.frame(0, 0));

        SeriesParallelRace greatest = new SeriesParallelRace(1000, 1000, 1000, 1000);
        Check.due("target 48 of 48 addresses", REFUSED, greatest.emit(JMP, 48));
        Check.emitAll(greatest, LOAD, -1, LOAD, 16, LOAD, 31, JMP, 47);
        Check.due("poke(15, 1) of 16 cells", OK, greatest.poke(15, 1));
        Check.due("poke(16, 1) of 16 cells", REFUSED, greatest.poke(16, 1));
        greatest.start();
        greatest.run(4);
        Check.due("the cell of -1 among 16", 15, greatest.step(0, 3));
        Check.due("the cell of 16 among 16", 0, greatest.step(1, 3));
        Check.due("the cell of 31 among 16", 15, greatest.step(2, 3));
        Check.due("races(15) of 16 cells", 0, greatest.races(15));
        Check.due("races(16) of 16 cells", REFUSED, greatest.races(16));
        Check.due("frame(0, 0)", 47, greatest.frame(0, 0));
    }

    private static void startsEmpty() {
        for (int size : new int[] {LEAST, 6, MOST}) {
            SeriesParallelRace x = new SeriesParallelRace(size, size, size, size);
            Check.due("status()", EDIT, x.status());
            Check.due("code(0, 0)", REFUSED, x.code(0, 0));
            Check.due("steps()", 0, x.steps());
            Check.due("step(0, 0)", REFUSED, x.step(0, 0));
            Check.due("depth()", 0, x.depth());
            Check.due("frame(0, 0)", REFUSED, x.frame(0, 0));
            int cells = Math.max(2, Math.min(16, size));
            for (int c = 0; c < cells; c++) {
                Check.due("cell(" + c + ")", 0, x.cell(c));
                Check.due("races(" + c + ")", 0, x.races(c));
                Check.due("firstRace(" + c + ")", -1, x.firstRace(c));
            }
            Check.due("emit(RET, 0)", 0, x.emit(RET, 0));
        }
    }

    private static int measured(int which, SeriesParallelRace x) {
        switch (which) {
            case 0:
                return codeCap(x);
            case 1:
                return cellCount(x);
            case 2:
                return depthCap(x);
            default:
                return instanceCap(x);
        }
    }

    private static int codeCap(SeriesParallelRace x) {
        int length = 0;
        while (length < 100 && x.emit(RET, 0) == length) {
            length++;
        }
        return length;
    }

    private static int cellCount(SeriesParallelRace x) {
        int count = 0;
        while (count < 100 && x.poke(count, 1) == OK) {
            count++;
        }
        return count;
    }

    /** A program that calls itself without end stops with the stack full. */
    private static int depthCap(SeriesParallelRace x) {
        x.emit(CALL, 0);
        x.start();
        Check.due("a program that only calls", TOO_DEEP, Check.runOut(x));
        return x.depth();
    }

    /** A program that spawns an empty child over and over stops with all instances made. */
    private static int instanceCap(SeriesParallelRace x) {
        x.emit(SPAWN, 2);
        x.emit(JMP, 0);
        x.start();
        Check.due("a program that only spawns", TOO_MANY, Check.runOut(x));
        return spawned(x) + 1;
    }

    private static int spawned(SeriesParallelRace x) {
        int spawns = 0;
        for (int k = 0; k < x.steps(); k++) {
            spawns += x.step(k, 1) == SPAWN ? 1 : 0;
        }
        return spawns;
    }
}
