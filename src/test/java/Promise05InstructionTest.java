/** Promise 5, the instructions: what each one does to A, X, the cells, the stack and the next address. */
public final class Promise05InstructionTest extends Ops {
    public static void main(String[] args) {
        setsAndAddsAndMoves();
        wrapsSums();
        loadsStoresAndSums();
        takesTheCellOfASum();
        jumps();
        forksAndReturns();
        returnsBehindTheProgram();
        ignoresArgsOfRetAndSync();
        startsAndJumpsBehindTheProgram();
        Check.end();
    }

    private static void setsAndAddsAndMoves() {
        SeriesParallelRace x = Check.started(SET, 5, ADD, -7, MOVE, 3, MOVE, -4, SYNC, 0);
        x.run(1);
        Check.level(x, 0, 1, 0, 5, 0, 0);
        x.run(1);
        Check.level(x, 0, 2, 0, -2, 0, 0);
        x.run(1);
        Check.level(x, 0, 3, 0, -2, 3, 0);
        x.run(1);
        Check.level(x, 0, 4, 0, -2, -1, 0);
        x.run(1);
        Check.level(x, 0, 5, 0, -2, -1, 0);
        for (int c = 0; c < 4; c++) {
            Check.due("cell(" + c + ")", 0, x.cell(c));
        }
    }

    private static void wrapsSums() {
        SeriesParallelRace x = Check.machine(SET, MOST, ADD, 2, MOVE, LEAST, MOVE, -1, MOVE, 1, LOAD, 0, SUM, 0);
        x.poke(0, LEAST);
        x.start();
        x.run(2);
        Check.due("A after ADD", LEAST + 1, x.frame(0, 2));
        x.run(2);
        Check.due("X after MOVE", MOST, x.frame(0, 3));
        x.run(3);
        Check.due("A after SUM", 0, x.frame(0, 2));
    }

    private static void loadsStoresAndSums() {
        SeriesParallelRace x = Check.machine(LOAD, 1, SUM, 2, STORE, 3, SUM, 3, STORE, 0);
        x.poke(1, 10);
        x.poke(2, 7);
        x.poke(3, 99);
        x.start();
        x.run(2);
        Check.due("A after LOAD and SUM", 17, x.frame(0, 2));
        Check.due("cell(3)", 99, x.cell(3));
        x.run(1);
        Check.due("cell(3)", 17, x.cell(3));
        Check.due("A after STORE", 17, x.frame(0, 2));
        x.run(2);
        int[] cells = {34, 10, 7, 17};
        for (int c = 0; c < 4; c++) {
            Check.due("cell(" + c + ")", cells[c], x.cell(c));
        }
    }

    private static void takesTheCellOfASum() {
        // arg, X, cellCount, the cell that is due
        int[][] cases = {{0, 0, 3, 0}, {2, 0, 3, 2}, {3, 0, 3, 0}, {-1, 0, 3, 2}, {-3, 0, 3, 0}, {-4, 0, 3, 2},
            {1, -2, 3, 2}, {5, 6, 3, 2}, {MOST, 1, 3, 1}, {LEAST, -1, 3, 1}, {LEAST, 0, 3, 1}, {MOST, MOST, 16, 14},
            {LEAST, 0, 16, 0}, {LEAST, 1, 7, 6}, {-1, 0, 2, 1}, {15, 0, 16, 15}};
        for (int[] one : cases) {
            for (int op : new int[] {LOAD, STORE, SUM}) {
                SeriesParallelRace x = new SeriesParallelRace(8, one[2], 4, 4);
                Check.emitAll(x, MOVE, one[1], SET, 50, op, one[0]);
                for (int c = 0; c < one[2]; c++) {
                    x.poke(c, 100 + c);
                }
                x.start();
                x.run(3);
                Check.stepIs(x, 2, 2, op, 0, one[3]);
                int loaded = 100 + one[3];
                Check.due("A", op == LOAD ? loaded : op == SUM ? 50 + loaded : 50, x.frame(0, 2));
                for (int c = 0; c < one[2]; c++) {
                    Check.due("cell(" + c + ")", op == STORE && c == one[3] ? 50 : 100 + c, x.cell(c));
                }
            }
        }
    }

    private static void jumps() {
        SeriesParallelRace x = Check.started(JZ, 2, RET, 0, ADD, -1, JZ, 1, JMP, 7, RET, 0, RET, 0, JMP, 2);
        int[] next = {2, 3, 4, 7, 2, 3, 4};
        for (int address : next) {
            Check.due("run(1)", RUNNING, x.run(1));
            Check.due("frame(0, 0)", address, x.frame(0, 0));
        }
        Check.level(x, 0, 4, 0, -2, 0, 0);
    }

    private static void forksAndReturns() {
        for (int op : new int[] {SPAWN, CALL}) {
            int flag = op == SPAWN ? 1 : 0;
            SeriesParallelRace x = Check.started(SET, 4, MOVE, 2, op, 4, RET, 0, ADD, 3, MOVE, 5, RET, 9);
            Check.due("run(3)", RUNNING, x.run(3));
            Check.due("depth()", 2, x.depth());
            Check.level(x, 0, 3, 0, 4, 2, 0);
            Check.level(x, 1, 4, 1, 4, 2, flag);
            x.run(2);
            Check.level(x, 0, 3, 0, 4, 2, 0);
            Check.level(x, 1, 6, 1, 7, 7, flag);
            Check.due("run(1)", RUNNING, x.run(1));
            Check.due("depth()", 1, x.depth());
            Check.level(x, 0, 3, 0, op == CALL ? 7 : 4, 2, 0);
            Check.due("run(1)", DONE, x.run(1));
            Check.due("depth()", 0, x.depth());
        }
    }

    private static void returnsBehindTheProgram() {
        SeriesParallelRace x = Check.started(SET, 1, CALL, 2);
        x.run(3);
        Check.due("depth()", 1, x.depth());
        Check.stepIs(x, 2, 2, RET, 1, -1);
        Check.due("frame(0, 0)", 2, x.frame(0, 0));
        Check.due("run(1)", DONE, x.run(1));
        Check.stepIs(x, 3, 2, RET, 0, -1);
        Check.due("code(2, 0)", REFUSED, x.code(2, 0));
    }

    private static void ignoresArgsOfRetAndSync() {
        SeriesParallelRace x = Check.started(SET, 2, SYNC, -9, CALL, 4, RET, 77, RET, LEAST);
        x.run(2);
        Check.level(x, 0, 2, 0, 2, 0, 0);
        x.run(2);
        Check.level(x, 0, 3, 0, 2, 0, 0);
        Check.due("run(1)", DONE, x.run(1));
    }

    private static void startsAndJumpsBehindTheProgram() {
        SeriesParallelRace x = Check.started(SPAWN, 15, JMP, 15);
        x.run(2);
        Check.stepIs(x, 1, 15, RET, 1, -1);
        x.run(1);
        Check.due("frame(0, 0)", 15, x.frame(0, 0));
        Check.due("run(1)", DONE, x.run(1));
        Check.stepIs(x, 3, 15, RET, 0, -1);
        // A full program of the greatest length runs off its end, to address 48.
        SeriesParallelRace y = new SeriesParallelRace(48, 4, 4, 4);
        for (int at = 0; at < 48; at++) {
            y.emit(ADD, 1);
        }
        y.start();
        y.run(32);
        Check.due("run(16)", RUNNING, y.run(16));
        Check.level(y, 0, 48, 0, 48, 0, 0);
        Check.due("run(1)", DONE, y.run(1));
        Check.stepIs(y, 48, 48, RET, 0, -1);
    }
}
