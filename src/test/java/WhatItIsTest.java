/** The section "What it is": wrap-around, refused calls and asking calls. */
public final class WhatItIsTest extends Ops {
    public static void main(String[] args) {
        Check.holds("All int arithmetic wraps as in Java.", WhatItIsTest::arithmeticWraps);
        Check.holds("A refused call answers REFUSED and changes nothing.", WhatItIsTest::refusedCallsChangeNothing);
        Check.holds("Calls that only ask never change anything.", WhatItIsTest::askingChangesNothing);
        Check.end();
    }

    private static void arithmeticWraps() {
        // A and X go over the greatest int and back under the least one; a SUM does both.
        SeriesParallelRace x = Check.machine(SET, MOST, ADD, 1, ADD, -1, MOVE, MOST, MOVE, 1, MOVE, -1,
            MOVE, LEAST + 2, SUM, 0, SUM, 0, LOAD, 1, SUM, 1, SUM, 0);
        x.poke(1, 1);
        x.poke(2, LEAST);
        x.start();
        int[][] registers = {{MOST, 0}, {LEAST, 0}, {MOST, 0}, {MOST, MOST}, {MOST, LEAST}, {MOST, MOST}, {MOST, 1},
            {LEAST, 1}, {LEAST + 1, 1}, {LEAST, 1}, {0, 1}, {1, 1}};
        for (int[] due : registers) {
            x.run(1);
            Check.due("A after step " + (x.steps() - 1), due[0], x.frame(0, 2));
            Check.due("X after step " + (x.steps() - 1), due[1], x.frame(0, 3));
        }
        // The sum of arg and X wraps before the remainder is taken: 5 cells show it, as 4 would not.
        SeriesParallelRace y = new SeriesParallelRace(8, 5, 4, 4);
        Check.emitAll(y, MOVE, MOST, LOAD, 1, MOVE, 2, LOAD, -1);
        y.start();
        y.run(4);
        Check.due("cell of arg 1 and the greatest X", Math.floorMod(LEAST, 5), y.step(1, 3));
        Check.due("cell of arg -1 and an X next to the least", Math.floorMod(LEAST, 5), y.step(3, 3));
    }

    private static void refusedCallsChangeNothing() {
        Machines.changesNothing(WhatItIsTest::makeEveryRefusedCall);
    }

    private static void makeEveryRefusedCall(SeriesParallelRace x) {
        Check.due("emit(-1, 0)", REFUSED, x.emit(-1, 0));
        Check.due("emit(12, 0)", REFUSED, x.emit(12, 0));
        Check.due("emit(JMP, 16)", REFUSED, x.emit(JMP, 16));
        Check.due("poke(-1, 8)", REFUSED, x.poke(-1, 8));
        Check.due("poke(4, 8)", REFUSED, x.poke(4, 8));
        if (x.status() != EDIT) {
            Check.due("emit(SET, 3)", REFUSED, x.emit(SET, 3));
            Check.due("poke(0, 8)", REFUSED, x.poke(0, 8));
            Check.due("start()", REFUSED, x.start());
        }
        if (x.status() != RUNNING) {
            Check.due("run(3)", REFUSED, x.run(3));
        }
        for (int value : new int[] {LEAST, -1, 128, MOST}) {
            Check.due("code", REFUSED, x.code(value, 0));
            Check.due("code", REFUSED, x.code(0, value));
            Check.due("step", REFUSED, x.step(value, 0));
            Check.due("step", REFUSED, x.step(0, value));
            Check.due("racing", REFUSED, x.racing(value));
            Check.due("concurrent", REFUSED, x.concurrent(value));
            Check.due("races", REFUSED, x.races(value));
            Check.due("frame", REFUSED, x.frame(value, 0));
            Check.due("frame", REFUSED, x.frame(0, value));
        }
    }

    private static void askingChangesNothing() {
        Machines.changesNothing(Machines::answers);
    }
}
