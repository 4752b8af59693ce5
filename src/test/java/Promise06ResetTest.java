/** Promise 6: reset forgets the run and the cells, and keeps the program, in every status. */
public final class Promise06ResetTest extends Ops {
    public static void main(String[] args) {
        SeriesParallelRace x = Check.machine(SPAWN, 3, STORE, 0, RET, 0, STORE, 0);
        for (int c = 0; c < 4; c++) {
            x.poke(c, 5 + c);
        }
        x.reset();
        isForgotten(x, 4);
        x.poke(1, 5);
        x.start();
        x.reset();
        isForgotten(x, 4);
        x.start();
        x.run(4);
        Check.due("races(0)", 1, x.races(0));
        x.reset();
        isForgotten(x, 4);
        x.start();
        Check.due("run(32)", DONE, x.run(32));
        Check.due("races(0)", 1, x.races(0));
        x.reset();
        isForgotten(x, 4);
        Check.due("emit after reset", 4, x.emit(JMP, 4));
        Check.due("code(0, 0)", SPAWN, x.code(0, 0));
        Check.due("code(4, 0)", JMP, x.code(4, 0));
        fromStoppedRuns();
        Check.end();
    }

    private static void fromStoppedRuns() {
        SeriesParallelRace deep = new SeriesParallelRace(8, 4, 2, 4);
        Check.emitAll(deep, SET, 1, STORE, 1, SPAWN, 0);
        resetWhen(deep, TOO_DEEP, 3);
        SeriesParallelRace many = new SeriesParallelRace(8, 4, 4, 2);
        Check.emitAll(many, SET, 1, STORE, 2, SPAWN, 0);
        resetWhen(many, TOO_MANY, 3);
        SeriesParallelRace lasting = new SeriesParallelRace(8, 4, 4, 4);
        Check.emitAll(lasting, ADD, 1, STORE, 3, JMP, 0);
        resetWhen(lasting, OUT_OF_STEPS, 3);
    }

    private static void resetWhen(SeriesParallelRace x, int stop, int length) {
        x.start();
        for (int i = 0; i < 5; i++) {
            x.run(32);
        }
        Check.due("status()", stop, x.status());
        x.reset();
        isForgotten(x, length);
    }

    private static void isForgotten(SeriesParallelRace x, int length) {
        Check.due("status()", EDIT, x.status());
        Check.due("steps()", 0, x.steps());
        Check.due("depth()", 0, x.depth());
        Check.due("step(0, 0)", REFUSED, x.step(0, 0));
        Check.due("racing(0)", REFUSED, x.racing(0));
        Check.due("concurrent(0)", REFUSED, x.concurrent(0));
        Check.due("frame(0, 0)", REFUSED, x.frame(0, 0));
        for (int c = 0; c < 4; c++) {
            Check.due("cell(" + c + ")", 0, x.cell(c));
            Check.due("races(" + c + ")", 0, x.races(c));
            Check.due("firstRace(" + c + ")", -1, x.firstRace(c));
        }
        Check.due("code(length - 1, 0) refused", 0, x.code(length - 1, 0) == REFUSED ? 1 : 0);
        Check.due("code(length, 0)", REFUSED, x.code(length, 0));
    }
}
