import java.util.function.Consumer;
import java.util.function.IntSupplier;
import java.util.stream.IntStream;

/** Machines in each of the six statuses, and the comparison of two that must stay alike. */
final class Machines extends Ops {
    static final int[] STATUSES = {EDIT, RUNNING, DONE, OUT_OF_STEPS, TOO_DEEP, TOO_MANY};
    static final int[] BEHIND_EDIT = {RUNNING, DONE, OUT_OF_STEPS, TOO_DEEP, TOO_MANY};
    static final int[] STOPPED = {DONE, OUT_OF_STEPS, TOO_DEEP, TOO_MANY};

    /** The length of the program of each of these machines, which have 16 addresses and 4 cells. */
    static final int LENGTH = 10;
    /** The step of each of their runs that races, at cell 0. */
    static final int RACING_STEP = 5;

    private static final int ACTIONS = 38;

    private Machines() {
    }

    static SeriesParallelRace in(int status) {
        SeriesParallelRace x = unasked(status);
        Check.due("status() of the machine to be tested", status, x.status());
        return x;
    }

    /** A new machine with the capacities of the one in the status. */
    static SeriesParallelRace empty(int status) {
        return new SeriesParallelRace(16, 4, status == TOO_DEEP ? 3 : 6, status == TOO_MANY ? 4 : 12);
    }

    /**
     * A machine that was put no question on its way to the status. Cells 1 and
     * 3 are poked; the child that the root spawns writes cell 0, then the root
     * does; the instruction at address 3 decides on how the run goes on.
     */
    private static SeriesParallelRace unasked(int status) {
        SeriesParallelRace x = empty(status);
        int decider = status == OUT_OF_STEPS ? JMP : status == TOO_DEEP || status == TOO_MANY ? CALL : SYNC;
        int[] program = {LOAD, 1, SPAWN, 7, STORE, 0, decider, 3, RET, 0, RET, 0, RET, 0, SET, 5, STORE, 0, RET, -1};
        for (int i = 0; i < program.length; i += 2) {
            x.emit(program[i], program[i + 1]);
        }
        x.poke(1, 9);
        x.poke(3, -1);
        if (status != EDIT) {
            x.start();
            x.run(6);
        }
        for (int i = 0; i < 5 && status != EDIT && status != RUNNING; i++) {
            x.run(32);
        }
        return x;
    }

    /** How many steps the run of the machine in a status has. */
    static int stepsIn(int status) {
        int[] steps = {0, 6, 8, 128, 8, 8};
        return steps[status];
    }

    /** How many levels the stack of the machine in a status has. */
    static int depthIn(int status) {
        int[] depths = {0, 1, 0, 1, 3, 3};
        return depths[status];
    }

    /**
     * Of two like machines in each status, makes the calls on one alone, now
     * and again whenever both have gone on. Both must answer alike: a change
     * that no question shows at once would show in what follows. The other
     * machine is asked nothing until the end, or a question that changes
     * something would change both; so each length of the way has its own two.
     */
    static void changesNothing(Consumer<SeriesParallelRace> calls) {
        for (int status : STATUSES) {
            for (int length = 0; length <= ACTIONS; length++) {
                SeriesParallelRace left = unasked(status);
                SeriesParallelRace changed = unasked(status);
                calls.accept(changed);
                for (int i = 0; i < length; i++) {
                    Check.due("the answer of action " + i + " from " + status, act(left, i), act(changed, i));
                    calls.accept(changed);
                }
                same("after " + length + " actions from status " + status, answers(left), answers(changed));
            }
        }
    }

    /** The run is started, goes on by single steps and then to its end; all that twice, with a reset between. */
    private static int act(SeriesParallelRace x, int number) {
        int half = number % (ACTIONS / 2);
        if (half == 0) {
            return x.start();
        }
        if (half <= 12) {
            return x.run(1);
        }
        if (half <= 17) {
            return x.run(32);
        }
        x.reset();
        x.poke(2, 6);
        return x.emit(SUM, 1);
    }

    static void same(String when, int[] want, int[] got) {
        for (int i = 0; i < want.length; i++) {
            Check.due("answer " + i + " of all the questions " + when, want[i], got[i]);
        }
    }

    /** The answers to every question that can be put, with the values next to each range; status() is the first. */
    static int[] answers(SeriesParallelRace x) {
        IntStream.Builder all = IntStream.builder();
        all.add(x.status());
        all.add(x.steps());
        all.add(x.depth());
        for (int at = -1; at <= 48; at++) {
            all.add(x.code(at, 0));
            all.add(x.code(at, 1));
        }
        for (int k = -1; k <= 128; k++) {
            for (int what = 0; what <= 3; what++) {
                all.add(x.step(k, what));
            }
            all.add(x.racing(k));
            all.add(x.concurrent(k));
        }
        for (int c = -1; c <= 16; c++) {
            all.add(x.cell(c));
            all.add(x.races(c));
            all.add(x.firstRace(c));
        }
        for (int level = -1; level <= 12; level++) {
            for (int what = 0; what <= 4; what++) {
                all.add(x.frame(level, what));
            }
        }
        return all.build().toArray();
    }

    /** The call is refused, and no answer of the machine is another one afterwards. */
    static void refuses(String call, SeriesParallelRace x, IntSupplier made) {
        int[] before = answers(x);
        Check.due(call, REFUSED, made.getAsInt());
        same("after the refused " + call, before, answers(x));
    }
}
