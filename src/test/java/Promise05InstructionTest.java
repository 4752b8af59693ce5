/** Promise 5, the instructions: what each one does to A, X, the cells, the stack and the next address. */
public final class Promise05InstructionTest extends Ops {
    public static void main(String[] args) {
        Check.holds("if p >= length, it is RET, with no effect on the program.",
            Promise05InstructionTest::returnsBehindTheProgram);
        Check.holds("If p < length, it is the program's instruction at p;",
            Promise05InstructionTest::executesTheLastInstruction);
        Check.holds("the steps of a run are numbered 0, 1, 2, .. in the order in which they are executed.",
            Promise05InstructionTest::numbersSteps);
        Check.holds("the next address of the executing instance becomes p + 1 unless said otherwise.",
            Promise05InstructionTest::goesOnBehindItself);
        returns();
        forks();
        registersAndJumps();
        accesses();
        Check.end();
    }

    private static void returns() {
        Check.holds("RET: the instance ends and leaves the stack.", Promise05InstructionTest::endedInstancesLeave);
        Check.holds("If it was the root, the status becomes DONE and the stack is empty.",
            Promise05InstructionTest::rootsEndTheRun);
        Check.holds("If it was made by CALL, the A of its parent becomes the A of the ended instance "
            + "and the parent's X stays.", Promise05InstructionTest::calledInstancesAnswerA);
        Check.holds("If it was made by SPAWN, the parent's A and X both stay.",
            Promise05InstructionTest::spawnedInstancesAnswerNothing);
        Check.holds("The parent is current again and goes on at its own next address.",
            Promise05InstructionTest::parentsGoOn);
    }

    private static void forks() {
        Check.holds("first the executing instance (the parent) gets next address p + 1; then a new instance is made, "
            + "with next address arg and with A and X copied from the parent; it is put on the stack and is current.",
            () -> forksBy(SPAWN, 1));
        Check.holds("exactly as SPAWN, but the new instance counts as called.", () -> forksBy(CALL, 0));
    }

    private static void registersAndJumps() {
        Check.holds("SYNC: no effect on A, X or cells", () -> registers(SYNC, 9, 5, -2, 1, 5, -2));
        Check.holds("A = arg.", () -> {
            registers(SET, 9, 5, -2, 1, 9, -2);
            registers(SET, LEAST, 5, -2, 1, LEAST, -2);
        });
        Check.holds("A = A + arg.", () -> registers(ADD, -9, 5, -2, 1, -4, -2));
        Check.holds("X = X + arg.", () -> registers(MOVE, -9, 5, -2, 1, 5, -11));
        Check.holds("if A == 0 the next address becomes arg, else p + 1.", Promise05InstructionTest::jumpsAtZeroOnly);
        Check.holds("JMP: the next address becomes arg.", Promise05InstructionTest::jumpsAlways);
        Check.holds("The sums of SUM, ADD and MOVE wrap as well.", Promise05InstructionTest::wrapsSums);
    }

    private static void accesses() {
        Check.holds("A = cell[e]. This step reads cell e.", () -> accesses(LOAD));
        Check.holds("cell[e] = A. This step writes cell e.", () -> accesses(STORE));
        Check.holds("A = A + cell[e]. This step reads cell e.", () -> accesses(SUM));
        Check.holds("s = arg + X (wrapping int sum),", Promise05InstructionTest::wrapsTheSumOfArgAndX);
        Check.holds("e = s % cellCount (Java remainder), and if that is negative, cellCount is added; "
            + "so 0 <= e < cellCount.", Promise05InstructionTest::takesTheRemainder);
        Check.holds("LOAD, STORE and SUM steps are the accesses; no other step is one.",
            Promise05InstructionTest::otherStepsAreNoAccesses);
        Check.holds("Only STORE changes a cell.", Promise05InstructionTest::onlyStoreChangesACell);
        Check.holds("Whatever an instruction is not said to change stays.",
            Promise05InstructionTest::changesNothingElse);
        Check.holds("The program never changes by running.", Promise05InstructionTest::programsStay);
        Check.holds("Races have no influence on the execution.", Promise05InstructionTest::racesDoNotMatter);
    }

    private static void returnsBehindTheProgram() {
        // The root runs off the end; an instance begins behind the program; a jump leads there.
        int[][] programs = {{SET, 1}, {CALL, 1}, {SPAWN, 15}, {JMP, 15}, {JZ, 9}};
        int[][] addresses = {{1}, {1, 1}, {15, 1}, {15}, {9}};
        for (int i = 0; i < programs.length; i++) {
            SeriesParallelRace x = Check.started(programs[i]);
            Check.due("run(32)", DONE, x.run(32));
            Check.due("steps()", 1 + addresses[i].length, x.steps());
            for (int k = 0; k < addresses[i].length; k++) {
                Check.due("step(" + (k + 1) + ", 0)", addresses[i][k], x.step(k + 1, 0));
                Check.due("step(" + (k + 1) + ", 1)", RET, x.step(k + 1, 1));
            }
            Check.due("code(1, 0)", REFUSED, x.code(1, 0));
            x.reset();
            Check.due("emit(ADD, 1)", 1, x.emit(ADD, 1));
        }
        // A full program of the greatest length runs off its end, to address 48.
        SeriesParallelRace y = new SeriesParallelRace(48, 4, 4, 4);
        for (int at = 0; at < 48; at++) {
            y.emit(ADD, 1);
        }
        y.start();
        y.run(32);
        Check.due("run(16)", RUNNING, y.run(16));
        Check.level(y, 0, 48, 0, 48, 0, 0);
        Check.due("run(1)", DONE, y.run(1));
        Check.stepIs(y, 48, 48, RET, 0, -1);
        Check.due("code(48, 0)", REFUSED, y.code(48, 0));
    }

    private static void executesTheLastInstruction() {
        for (int length = 1; length <= 8; length++) {
            SeriesParallelRace x = new SeriesParallelRace(8, 4, 4, 4);
            for (int at = 0; at < length; at++) {
                x.emit(ADD, 1 << at);
            }
            x.start();
            Check.due("run(length)", RUNNING, x.run(length));
            Check.level(x, 0, length, 0, (1 << length) - 1, 0, 0);
            Check.due("run(1)", DONE, x.run(1));
        }
    }

    private static void numbersSteps() {
        SeriesParallelRace x = Check.started(SPAWN, 3, CALL, 4, RET, 0, SET, 1);
        int[] addresses = {0, 3, 4, 1, 4, 2};
        for (int k = 0; k < addresses.length; k++) {
            Check.due("steps()", k, x.steps());
            x.run(1);
            Check.due("step(" + k + ", 0)", addresses[k], x.step(k, 0));
        }
        Check.due("status()", DONE, x.status());
    }

    private static void goesOnBehindItself() {
        for (int op : new int[] {SYNC, LOAD, STORE, SUM, SET, ADD, MOVE}) {
            for (int p = 0; p < 8; p++) {
                SeriesParallelRace x = new SeriesParallelRace(8, 4, 4, 4);
                for (int at = 0; at < 8; at++) {
                    x.emit(at == p ? op : SET, 3);
                }
                x.start();
                x.run(p + 1);
                Check.due("step(" + p + ", 1)", op, x.step(p, 1));
                Check.due("frame(0, 0) after opcode " + op, p + 1, x.frame(0, 0));
            }
        }
    }

    private static void endedInstancesLeave() {
        for (int op : new int[] {SPAWN, CALL}) {
            SeriesParallelRace x = Check.started(op, 3, RET, 0, RET, 0, op, 5, RET, 0, RET, 0);
            x.run(2);
            for (int depth = 3; depth >= 1; depth--) {
                Check.due("depth()", depth, x.depth());
                Check.due("frame(depth, 1)", REFUSED, x.frame(depth, 1));
                x.run(1);
                Check.due("step(.., 1)", RET, x.step(x.steps() - 1, 1));
                Check.due("step(.., 2)", depth - 1, x.step(x.steps() - 1, 2));
            }
            Check.due("depth()", 0, x.depth());
        }
    }

    private static void rootsEndTheRun() {
        SeriesParallelRace x = Check.started(SET, 3, RET, 0, SET, 4);
        x.run(1);
        Check.due("run(1)", DONE, x.run(1));
        Check.due("status()", DONE, x.status());
        Check.due("depth()", 0, x.depth());
        Check.due("frame(0, 0)", REFUSED, x.frame(0, 0));
        Check.due("steps()", 2, x.steps());
    }

    private static void calledInstancesAnswerA() {
        for (int a : new int[] {7, 0, -1, LEAST, MOST}) {
            SeriesParallelRace x = Check.started(SET, 4, MOVE, 2, CALL, 4, RET, 0, SET, a, MOVE, 5, RET, 9);
            x.run(5);
            Check.level(x, 0, 3, 0, 4, 2, 0);
            x.run(1);
            Check.due("depth()", 1, x.depth());
            Check.level(x, 0, 3, 0, a, 2, 0);
        }
        // The A goes up one level only, until that level returns too.
        SeriesParallelRace y = Check.started(SET, 1, CALL, 3, RET, 0, SET, 2, CALL, 6, RET, 0, SET, 3, RET, 0);
        y.run(6);
        Check.level(y, 0, 2, 0, 1, 0, 0);
        Check.level(y, 1, 5, 1, 3, 0, 0);
        y.run(1);
        Check.level(y, 0, 2, 0, 3, 0, 0);
    }

    private static void spawnedInstancesAnswerNothing() {
        for (int a : new int[] {7, 0, -1, LEAST, MOST}) {
            SeriesParallelRace x = Check.started(SET, 4, MOVE, 2, SPAWN, 4, RET, 0, SET, a, MOVE, 5, RET, 9);
            x.run(6);
            Check.due("depth()", 1, x.depth());
            Check.level(x, 0, 3, 0, 4, 2, 0);
        }
    }

    private static void parentsGoOn() {
        for (int op : new int[] {SPAWN, CALL}) {
            SeriesParallelRace x = Check.started(JMP, 3, RET, 0, RET, 0, op, 6, STORE, 1, RET, 0, JMP, 9);
            x.run(4);
            Check.due("depth()", 1, x.depth());
            Check.due("frame(0, 0)", 4, x.frame(0, 0));
            x.run(1);
            Check.stepIs(x, 4, 4, STORE, 0, 1);
        }
    }

    private static void forksBy(int op, int flag) {
        for (int target = 0; target < 16; target++) {
            SeriesParallelRace x = Check.started(SET, -4, MOVE, 2, op, target);
            Check.due("run(3)", RUNNING, x.run(3));
            Check.due("depth()", 2, x.depth());
            Check.level(x, 0, 3, 0, -4, 2, 0);
            Check.level(x, 1, target, 1, -4, 2, flag);
            x.run(1);
            Check.due("step(3, 2)", 1, x.step(3, 2));
            Check.due("step(3, 0)", target, x.step(3, 0));
        }
    }

    /** Executes one instruction with the given A and X, at address 4 of the root, and compares what comes of it. */
    private static void registers(int op, int arg, int a, int x, int ahead, int newA, int newX) {
        SeriesParallelRace machine = Check.machine(SET, a, MOVE, x, SYNC, 0, SYNC, 0, op, arg);
        for (int c = 0; c < 4; c++) {
            machine.poke(c, 100 + c);
        }
        machine.start();
        machine.run(5);
        Check.due("depth()", 1, machine.depth());
        Check.level(machine, 0, 4 + ahead, 0, newA, newX, 0);
        Check.cells(machine, 100, 101, 102, 103);
    }

    private static void jumpsAtZeroOnly() {
        for (int a : new int[] {0, 1, -1, 256, LEAST, MOST}) {
            for (int target = 0; target < 16; target++) {
                registers(JZ, target, a, -2, a == 0 ? target - 4 : 1, a, -2);
            }
        }
    }

    private static void jumpsAlways() {
        for (int a : new int[] {0, 1, -1, LEAST}) {
            for (int target = 0; target < 16; target++) {
                registers(JMP, target, a, -2, target - 4, a, -2);
            }
        }
    }

    private static void wrapsSums() {
        registers(ADD, 1, MOST, 0, 1, LEAST, 0);
        registers(ADD, -1, LEAST, 0, 1, MOST, 0);
        registers(ADD, LEAST, LEAST, 0, 1, 0, 0);
        registers(MOVE, 1, 0, MOST, 1, 0, LEAST);
        registers(MOVE, -1, 0, LEAST, 1, 0, MOST);
        registers(MOVE, MOST, 0, MOST, 1, 0, -2);
        int[][] sums = {{MOST, 1, LEAST}, {LEAST, -1, MOST}, {LEAST, LEAST, 0}, {MOST, MOST, -2}};
        for (int[] sum : sums) {
            SeriesParallelRace x = Check.machine(SET, sum[0], SUM, 2);
            x.poke(2, sum[1]);
            x.start();
            x.run(2);
            Check.due("A after a SUM of " + sum[0] + " and " + sum[1], sum[2], x.frame(0, 2));
        }
    }

    private static void accesses(int op) {
        for (int arg = 0; arg < 4; arg++) {
            access(op, arg, 0, 4, arg);
        }
    }

    /** Executes one access with an A of 50 and the given X, where each cell c is 100 + c, and compares all. */
    private static void access(int op, int arg, int x, int cellCount, int due) {
        SeriesParallelRace machine = new SeriesParallelRace(8, cellCount, 4, 4);
        Check.emitAll(machine, MOVE, x, SET, 50, op, arg);
        for (int c = 0; c < cellCount; c++) {
            machine.poke(c, 100 + c);
        }
        machine.start();
        machine.run(3);
        Check.stepIs(machine, 2, 2, op, 0, due);
        int a = op == LOAD ? 100 + due : op == SUM ? 150 + due : 50;
        Check.level(machine, 0, 3, 0, a, x, 0);
        for (int c = 0; c < cellCount; c++) {
            Check.due("cell(" + c + ")", op == STORE && c == due ? 50 : 100 + c, machine.cell(c));
        }
    }

    private static void wrapsTheSumOfArgAndX() {
        int[] values = {LEAST, LEAST + 1, -5, -1, 0, 1, 6, MOST - 1, MOST};
        for (int arg : values) {
            for (int x : values) {
                for (int cellCount = 2; cellCount <= 16; cellCount++) {
                    access(LOAD, arg, x, cellCount, Math.floorMod(arg + x, cellCount));
                }
            }
        }
    }

    private static void takesTheRemainder() {
        for (int op : new int[] {LOAD, STORE, SUM}) {
            // arg, X, cellCount, the cell that is due
            int[][] cases = {{0, 0, 3, 0}, {2, 0, 3, 2}, {3, 0, 3, 0}, {-1, 0, 3, 2}, {-3, 0, 3, 0}, {-4, 0, 3, 2},
                {1, -2, 3, 2}, {5, 6, 3, 2}, {MOST, 1, 3, 1}, {LEAST, -1, 3, 1}, {LEAST, 0, 3, 1},
                {MOST, MOST, 16, 14}, {LEAST, 0, 16, 0}, {LEAST, 1, 7, 6}, {-1, 0, 2, 1}, {15, 0, 16, 15},
                {16, 0, 16, 0}, {-16, 0, 16, 0}, {-15, 0, 16, 1}, {-17, 0, 16, 15}};
            for (int[] one : cases) {
                access(op, one[0], one[1], one[2], one[3]);
            }
        }
    }

    /** Two instances that are unordered execute the same instruction; only accesses name a cell, and only they race. */
    private static void otherStepsAreNoAccesses() {
        for (int op = RET; op <= JMP; op++) {
            SeriesParallelRace x = Check.started(SPAWN, 2, SYNC, 0, op, 9, RET, 0);
            x.run(2);
            boolean access = op == LOAD || op == STORE || op == SUM;
            Check.due("step(1, 1)", op, x.step(1, 1));
            Check.due("step(1, 3) of opcode " + op, access ? 1 : -1, x.step(1, 3));
            SeriesParallelRace twice = Check.started(SPAWN, 4, SPAWN, 4, STORE, 1, RET, 0, op, 9);
            Check.due("run(32)", DONE, twice.run(32));
            int stores = op == STORE ? 2 : access ? 1 : 0;
            Check.due("races(1) of opcode " + op, stores, twice.races(1));
        }
    }

    private static void onlyStoreChangesACell() {
        for (int op = RET; op <= JMP; op++) {
            SeriesParallelRace x = Check.machine(SET, 7, op, 2);
            for (int c = 0; c < 4; c++) {
                x.poke(c, 100 + c);
            }
            x.start();
            x.run(2);
            Check.due("step(1, 1)", op, x.step(1, 1));
            Check.cells(x, 100, 101, op == STORE ? 7 : 102, 103);
        }
    }

    /** Every instruction is executed on the second level; the first must stay as it is, but for what RET says. */
    private static void changesNothingElse() {
        for (int op = RET; op <= JMP; op++) {
            SeriesParallelRace x = Check.started(SET, 7, MOVE, 3, SPAWN, 5, RET, 0, RET, 0, ADD, 1, op, 2);
            x.run(4);
            Check.level(x, 0, 3, 0, 7, 3, 0);
            Check.level(x, 1, 6, 1, 8, 3, 1);
            Check.due("run(1) of opcode " + op, RUNNING, x.run(1));
            Check.level(x, 0, 3, 0, 7, 3, 0);
            Check.due("steps()", 5, x.steps());
            int depth = op == RET ? 1 : op == SPAWN || op == CALL ? 3 : 2;
            Check.due("depth() after opcode " + op, depth, x.depth());
            if (depth > 1) {
                Check.due("its number", 1, x.frame(1, 1));
                Check.due("its being spawned", 1, x.frame(1, 4));
            }
        }
    }

    private static void programsStay() {
        for (int status : Machines.BEHIND_EDIT) {
            SeriesParallelRace edited = Machines.in(EDIT);
            SeriesParallelRace ran = Machines.in(status);
            for (int at = 0; at <= 15; at++) {
                if (at != 3) {
                    Check.due("code(" + at + ", 0)", edited.code(at, 0), ran.code(at, 0));
                }
                Check.due("code(" + at + ", 1)", edited.code(at, 1), ran.code(at, 1));
            }
        }
    }

    /** With SPAWN the accesses race and with CALL they do not; the cells come out the same. */
    private static void racesDoNotMatter() {
        for (int op : new int[] {SPAWN, CALL}) {
            SeriesParallelRace x = Check.machine(op, 7, LOAD, 0, SUM, 1, STORE, 2, SET, 9, STORE, 0, RET, 0,
                SET, 30, STORE, 0, LOAD, 2, STORE, 1);
            x.poke(1, 4);
            x.poke(2, 5);
            x.start();
            Check.due("run(32)", DONE, x.run(32));
            Check.due("steps()", 12, x.steps());
            Check.cells(x, 9, 5, 35, 0);
            int racing = 0;
            for (int c = 0; c < 4; c++) {
                racing += x.races(c);
            }
            Check.due("racing steps", op == SPAWN ? 4 : 0, racing);
        }
    }
}
