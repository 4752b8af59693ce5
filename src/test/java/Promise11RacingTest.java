/**
 * Promise 11: the graph's edges, seen through the masks of the accesses. The
 * masks stand in the order of the steps, which is depth-first: a child's steps
 * come before those that its parent executes after making it.
 */
public final class Promise11RacingTest extends Ops {
    public static void main(String[] args) {
        refusesStepsOutside();
        masksOfEachPair();
        countsEveryEarlierAccess();
        syncOrdersEndedChildren();
        syncOrdersTheOwnChildrenOnly();
        retIsASyncOfItsInstance();
        siblingsAreParallel();
        forgottenRunsOrderNothing();
        masksStayWhenLaterStepsCome();
        holdsAtEveryStepNumber();
        Check.end();
    }

    private static void masksAre(int[] program, int... masks) {
        SeriesParallelRace x = Check.started(program);
        Check.due("run(32)", DONE, x.run(32));
        Check.masks(x, masks);
    }

    private static void refusesStepsOutside() {
        SeriesParallelRace x = Check.machine(SET, 1);
        Check.due("racing(0) in EDIT", REFUSED, x.racing(0));
        x.start();
        Check.due("racing(0) before a step", REFUSED, x.racing(0));
        x.run(2);
        for (int k : new int[] {-1, 2, 127, 128, LEAST, MOST}) {
            Check.due("racing(" + k + ")", REFUSED, x.racing(k));
        }
        Check.masks(x, 0, 0);
    }

    /** A child's access, then the parent's to the same cell, and to another. */
    private static void masksOfEachPair() {
        int[] accesses = {LOAD, STORE, SUM};
        for (int first : accesses) {
            for (int second : accesses) {
                int mask = first == STORE ? 1 : second == STORE ? 2 : 0;
                masksAre(new int[] {SPAWN, 3, second, 1, RET, 0, first, 1}, 0, 0, 0, mask, 0);
                masksAre(new int[] {SPAWN, 3, second, 1, RET, 0, first, 2}, 0, 0, 0, 0, 0);
                masksAre(new int[] {CALL, 3, second, 1, RET, 0, first, 1}, 0, 0, 0, 0, 0);
                masksAre(new int[] {first, 1, second, 1}, 0, 0, 0);
            }
        }
        masksAre(new int[] {SPAWN, 3, STORE, 1, RET, 0, LOAD, 1, STORE, 5}, 0, 0, 0, 0, 3, 0);
        masksAre(new int[] {SPAWN, 3, SUM, 1, RET, 0, LOAD, 1, STORE, 5}, 0, 0, 0, 0, 1, 0);
    }

    /** The latest accesses to the cell are the parent's own; the child's still race. */
    private static void countsEveryEarlierAccess() {
        masksAre(new int[] {SPAWN, 5, STORE, 0, LOAD, 0, STORE, 0, RET, 0, STORE, 0}, 0, 0, 0, 1, 1, 1, 0);
        masksAre(new int[] {SPAWN, 5, LOAD, 0, STORE, 0, STORE, 0, RET, 0, SUM, 0}, 0, 0, 0, 0, 2, 2, 0);
    }

    private static void syncOrdersEndedChildren() {
        masksAre(new int[] {SPAWN, 5, SPAWN, 5, SYNC, 0, STORE, 0, RET, 0, STORE, 0, LOAD, 0},
            0, 0, 0, 0, 0, 3, 1, 0, 0, 0, 0);
        // A child made after the SYNC comes after the first one, but is not ordered by that SYNC.
        masksAre(new int[] {SPAWN, 5, SYNC, 0, SPAWN, 5, LOAD, 0, RET, 0, STORE, 0}, 0, 0, 0, 0, 0, 0, 0, 1, 0);
    }

    private static void syncOrdersTheOwnChildrenOnly() {
        // Neither the SYNC nor the RET of a called instance orders what its caller spawned.
        masksAre(new int[] {SPAWN, 7, CALL, 4, LOAD, 0, RET, 0, SYNC, 0, LOAD, 0, RET, 0, STORE, 0},
            0, 0, 0, 0, 0, 1, 0, 1, 0);
        // The SYNC of a spawned instance does not order its elder sibling.
        masksAre(new int[] {SPAWN, 4, SPAWN, 6, SYNC, 0, RET, 0, STORE, 0, RET, 0, SYNC, 0, LOAD, 0},
            0, 0, 0, 0, 0, 1, 0, 0, 0);
    }

    private static void retIsASyncOfItsInstance() {
        // A called instance's own child is ordered by that instance's RET, here a written one,
        masksAre(new int[] {CALL, 3, LOAD, 0, RET, 0, SPAWN, 5, RET, 0, STORE, 0}, 0, 0, 0, 0, 0, 0, 0);
        // and here the one behind the program.
        masksAre(new int[] {CALL, 5, LOAD, 0, RET, 0, STORE, 0, RET, 0, SPAWN, 3}, 0, 0, 0, 0, 0, 0, 0);
        // A spawned instance's own child is ordered by that RET and the parent's SYNC together,
        masksAre(new int[] {SPAWN, 4, SYNC, 0, LOAD, 0, RET, 0, SPAWN, 6, RET, 0, STORE, 0}, 0, 0, 0, 0, 0, 0, 0, 0);
        // and is unordered before that SYNC.
        masksAre(new int[] {SPAWN, 4, LOAD, 0, SYNC, 0, RET, 0, SPAWN, 6, RET, 0, STORE, 0}, 0, 0, 0, 0, 0, 1, 0, 0);
    }

    private static void siblingsAreParallel() {
        masksAre(new int[] {SPAWN, 3, SPAWN, 3, RET, 0, STORE, 0}, 0, 0, 0, 0, 1, 0, 0);
        masksAre(new int[] {CALL, 3, CALL, 3, RET, 0, STORE, 0}, 0, 0, 0, 0, 0, 0, 0);
        masksAre(new int[] {SPAWN, 3, CALL, 3, RET, 0, STORE, 0}, 0, 0, 0, 0, 1, 0, 0);
        masksAre(new int[] {CALL, 3, SPAWN, 3, RET, 0, STORE, 0}, 0, 0, 0, 0, 0, 0, 0);
    }

    /** A run that is broken off with a child awaited, then one that begins with a SYNC, then the first once more. */
    private static void forgottenRunsOrderNothing() {
        SeriesParallelRace x = Check.machine(LOAD, 3, JZ, 5, SPAWN, 8, SYNC, 0, RET, 0,
            SYNC, 0, SPAWN, 8, STORE, 0, STORE, 0, STORE, 0);
        x.poke(3, 1);
        x.start();
        Check.due("run(6)", RUNNING, x.run(6));
        Check.masks(x, 0, 0, 0, 0, 0, 0);
        x.reset();
        x.start();
        Check.due("run(32)", DONE, x.run(32));
        Check.masks(x, 0, 0, 0, 0, 0, 0, 0, 1, 1, 1, 0);
        x.reset();
        x.poke(3, 1);
        x.start();
        Check.due("run(32)", DONE, x.run(32));
        Check.masks(x, 0, 0, 0, 0, 0, 0, 0, 0);
    }

    private static void masksStayWhenLaterStepsCome() {
        SeriesParallelRace x = Check.started(SPAWN, 5, STORE, 0, SYNC, 0, STORE, 0, RET, 0, LOAD, 0);
        x.run(4);
        Check.masks(x, 0, 0, 0, 2);
        x.run(1);
        Check.masks(x, 0, 0, 0, 2, 0);
        x.run(1);
        Check.masks(x, 0, 0, 0, 2, 0, 0);
        Check.due("run(1)", DONE, x.run(1));
        Check.masks(x, 0, 0, 0, 2, 0, 0, 0);
    }

    /** The same races, moved from the run's beginning to its very end by idle steps. */
    private static void holdsAtEveryStepNumber() {
        int[] tail = {0, 0, 0, 0, 1, 3, 0, 0, 0, 0};
        for (int idle = 0; idle <= 116; idle++) {
            SeriesParallelRace x = new SeriesParallelRace(48, 4, 4, 4);
            Check.emitAll(x, SET, -(idle / 3), JZ, 4, ADD, 1, JMP, 1);
            for (int i = 0; i < idle % 3; i++) {
                Check.emitAll(x, MOVE, 0);
            }
            int child = 4 + idle % 3 + 7;
            Check.emitAll(x, SPAWN, child, LOAD, 0, STORE, 0, SYNC, 0, LOAD, 0, STORE, 0, RET, 0, STORE, 0, LOAD, 0);
            x.start();
            for (int i = 0; i < 4 && x.status() == RUNNING; i++) {
                x.run(32);
            }
            Check.due("status() with " + idle + " idle steps", DONE, x.status());
            int[] masks = new int[2 + idle + tail.length];
            System.arraycopy(tail, 0, masks, 2 + idle, tail.length);
            Check.masks(x, masks);
        }
    }
}
