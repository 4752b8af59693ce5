import java.util.function.Consumer;
import java.util.function.IntSupplier;
import java.util.stream.IntStream;

/** Machines in each of the six statuses, and the comparison of two that must stay alike. */
final class Machines extends Ops {
    static final int[] STATUSES = {EDIT, RUNNING, DONE, OUT_OF_STEPS, TOO_DEEP, TOO_MANY};
    static final int[] BEHIND_EDIT = {RUNNING, DONE, OUT_OF_STEPS, TOO_DEEP, TOO_MANY};
    static final int[] STOPPED = {DONE, OUT_OF_STEPS, TOO_DEEP, TOO_MANY};

    /** The length of the program of each of these machines, which have 16 addresses and 4 cells. */
    static final int LENGTH = 10;
    /** The step of each of their runs that races, at cell 0. */
    static final int RACING_STEP = 5;

    private Machines() {
    }

    /** Cells 1 and 3 are poked; the child that the root spawns writes cell 0, then the root does; address 3 decides. */
    static SeriesParallelRace in(int status) {
        int decider = status == OUT_OF_STEPS ? JMP : status == TOO_DEEP || status == TOO_MANY ? CALL : SYNC;
        SeriesParallelRace x = new SeriesParallelRace(16, 4, status == TOO_DEEP ? 3 : 6, status == TOO_MANY ? 4 : 12);
        Check.emitAll(x, LOAD, 1, SPAWN, 7, STORE, 0, decider, 3, RET, 0, RET, 0, RET, 0, SET, 5, STORE, 0, RET, -1);
        x.poke(1, 9);
        x.poke(3, -1);
        if (status != EDIT) {
            x.start();
            x.run(6);
        }
        if (status != EDIT && status != RUNNING) {
            Check.runOut(x);
        }
        Check.due("status() of the machine to be tested", status, x.status());
        return x;
    }

    /** How many steps the run of the machine in a status has. */
    static int stepsIn(int status) {
        int[] steps = {0, 6, 8, 128, 8, 8};
        return steps[status];
    }

    /** How many levels the stack of the machine in a status has. */
    static int depthIn(int status) {
        int[] depths = {0, 1, 0, 1, 3, 3};
        return depths[status];
    }

    /**
     * Of two like machines in each status, makes the calls on one alone, now
     * and again whenever both have gone on. Both must answer alike throughout:
     * a change that no question shows at once would show in what follows.
     */
    static void changesNothing(Consumer<SeriesParallelRace> calls) {
        for (int status : STATUSES) {
            SeriesParallelRace left = in(status);
            SeriesParallelRace changed = in(status);
            alike("in status " + status, calls, left, changed);
            goOn("from status " + status, calls, left, changed);
            left.reset();
            changed.reset();
            alike("after reset", calls, left, changed);
            Check.due("emit after reset", left.emit(SUM, 1), changed.emit(SUM, 1));
            Check.due("poke after reset", left.poke(2, 6), changed.poke(2, 6));
            goOn("after reset", calls, left, changed);
        }
    }

    private static void goOn(String when, Consumer<SeriesParallelRace> calls, SeriesParallelRace left,
            SeriesParallelRace changed) {
        Check.due("start() " + when, left.start(), changed.start());
        for (int i = 0; i < 20; i++) {
            alike(when, calls, left, changed);
            Check.due("run(1) " + when, left.run(1), changed.run(1));
        }
        for (int i = 0; i < 5; i++) {
            Check.due("run(32) " + when, left.run(32), changed.run(32));
            alike(when, calls, left, changed);
        }
    }

    private static void alike(String when, Consumer<SeriesParallelRace> calls, SeriesParallelRace left,
            SeriesParallelRace changed) {
        calls.accept(changed);
        same(when, answers(left), answers(changed));
    }

    static void same(String when, int[] want, int[] got) {
        for (int i = 0; i < want.length; i++) {
            Check.due("answer " + i + " of all the questions " + when, want[i], got[i]);
        }
    }

    /** The answers to every question that can be put, with the values next to each range; status() is the first. */
    static int[] answers(SeriesParallelRace x) {
        IntStream.Builder all = IntStream.builder();
        all.add(x.status());
        all.add(x.steps());
        all.add(x.depth());
        for (int at = -1; at <= 48; at++) {
            all.add(x.code(at, 0));
            all.add(x.code(at, 1));
        }
        for (int k = -1; k <= 128; k++) {
            for (int what = 0; what <= 3; what++) {
                all.add(x.step(k, what));
            }
            all.add(x.racing(k));
            all.add(x.concurrent(k));
        }
        for (int c = -1; c <= 16; c++) {
            all.add(x.cell(c));
            all.add(x.races(c));
            all.add(x.firstRace(c));
        }
        for (int level = -1; level <= 12; level++) {
            for (int what = 0; what <= 4; what++) {
                all.add(x.frame(level, what));
            }
        }
        return all.build().toArray();
    }

    /** The call is refused, and no answer of the machine is another one afterwards. */
    static void refuses(String call, SeriesParallelRace x, IntSupplier made) {
        int[] before = answers(x);
        Check.due(call, REFUSED, made.getAsInt());
        same("after the refused " + call, before, answers(x));
    }
}
