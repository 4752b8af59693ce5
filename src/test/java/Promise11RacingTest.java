/**
 * Promise 11: the graph's edges, seen through the masks of the accesses. The
 * masks stand in the order of the steps, which is depth-first: a child's steps
 * come before those that its parent executes after making it.
 */
public final class Promise11RacingTest extends Ops {
    public static void main(String[] args) {
        edges();
        masks();
        Check.holds("racing(k) answers REFUSED if k is not in 0..steps()-1,", Promise11RacingTest::refusesStepsOutside);
        Check.holds("otherwise the racing mask of step k.", Promise11RacingTest::holdsAtEveryStepNumber);
        Check.holds("It changes nothing.", () -> Machines.changesNothing(x -> {
            for (int k : Check.AROUND) {
                x.racing(k);
            }
        }));
        Check.end();
    }

    private static void edges() {
        Check.holds("(an edge whose far end is a step not yet executed, or never executed, is absent)",
            Promise11RacingTest::edgesNeedTheirFarEnd);
        Check.holds("from a SPAWN step to the first step of the new instance,",
            Promise11RacingTest::spawnLeadsToTheChild);
        Check.holds("and also to the next step (after the SPAWN) of the instance that executed it;",
            Promise11RacingTest::spawnLeadsToTheParent);
        Check.holds("from a CALL step to the first step of the new instance (only);",
            Promise11RacingTest::callLeadsToTheCalled);
        Check.holds("from the RET step of a called instance to the next step of its parent;",
            Promise11RacingTest::calledRetLeadsToTheParent);
        Check.holds("from the RET step of a spawned instance to the first SYNC",
            Promise11RacingTest::spawnedRetLeadsToSync);
        Check.holds("or RET step that its parent executes after it;", Promise11RacingTest::spawnedRetLeadsToRet);
        Check.holds("from a step that is none of SPAWN, CALL, RET to the next step of the same instance.",
            Promise11RacingTest::otherStepsLeadOn);
        Check.holds("Its edges are the following and no others", Promise11RacingTest::thereAreNoOtherEdges);
        Check.holds("The next step of an instance is the first later step executed by that very instance.",
            Promise11RacingTest::nextStepsAreOfTheVeryInstance);
        Check.holds("RET here includes RET at an address >= length.", Promise11RacingTest::retBehindTheProgramCounts);
        Check.holds("Steps j < k are unordered if no path of edges leads from j to k.",
            Promise11RacingTest::pathsLeadThroughInstances);
    }

    private static void masks() {
        Check.holds("1 if some step j < k writes cell e, and j and k are unordered;",
            Promise11RacingTest::racesWithWrites);
        Check.holds("2 if k is a STORE and some step j < k reads cell e, and j and k are unordered",
            Promise11RacingTest::storesRaceWithReads);
        Check.holds("(for LOAD and SUM this part is never set).", Promise11RacingTest::readsDoNotRaceWithReads);
        Check.holds("The mask is their sum, 0 to 3.", Promise11RacingTest::masksAreSums);
        Check.holds("A step that is not an access has mask 0.", Promise11RacingTest::otherStepsHaveMaskZero);
        Check.holds("A racing step is one whose mask is not 0.", Promise11RacingTest::racingStepsHaveAMask);
        Check.holds("Later steps never change a mask.", Promise11RacingTest::masksStayWhenLaterStepsCome);
        Check.holds("Every earlier access", Promise11RacingTest::countsEveryEarlierAccess);
        Check.holds("of the same run counts,", Promise11RacingTest::forgottenRunsOrderNothing);
        Check.holds("not only the latest one to the cell.", Promise11RacingTest::countsNotOnlyTheLatest);
    }

    private static void masksAre(int[] program, int... masks) {
        SeriesParallelRace x = Check.started(program);
        Check.due("run(32)", DONE, x.run(32));
        Check.masks(x, masks);
    }

    private static void edgesNeedTheirFarEnd() {
        // The SYNC comes after the LOAD, so nothing leads from the child to the LOAD, then or later.
        masksAre(new int[] {SPAWN, 4, LOAD, 0, SYNC, 0, RET, 0, STORE, 0}, 0, 0, 0, 1, 0, 0);
        // The SYNC is stepped over and never executed.
        masksAre(new int[] {SPAWN, 4, JMP, 3, SYNC, 0, LOAD, 0, STORE, 0}, 0, 0, 0, 0, 1, 1, 0);
        // The run stops on the way to the SYNC.
        SeriesParallelRace x = new SeriesParallelRace(8, 4, 4, 2);
        Check.emitAll(x, SPAWN, 4, STORE, 0, CALL, 4, SYNC, 0, STORE, 0);
        x.start();
        Check.due("run(32)", TOO_MANY, x.run(32));
        Check.masks(x, 0, 0, 0, 1);
        Check.concurrents(x, 0, 1, 1, 0);
    }

    private static void spawnLeadsToTheChild() {
        masksAre(new int[] {STORE, 0, SPAWN, 3, RET, 0, LOAD, 0, STORE, 0}, 0, 0, 0, 0, 0, 0);
        masksAre(new int[] {LOAD, 0, SPAWN, 3, RET, 0, STORE, 0}, 0, 0, 0, 0, 0);
        // Through two levels.
        masksAre(new int[] {STORE, 0, SPAWN, 3, RET, 0, SPAWN, 5, RET, 0, LOAD, 0}, 0, 0, 0, 0, 0, 0, 0);
    }

    private static void spawnLeadsToTheParent() {
        masksAre(new int[] {STORE, 0, SPAWN, 5, LOAD, 0, STORE, 0, RET, 0, SET, 1}, 0, 0, 0, 0, 0, 0, 0);
        // Over two SPAWN steps.
        masksAre(new int[] {LOAD, 0, SPAWN, 4, SPAWN, 4, STORE, 0, SET, 1}, 0, 0, 0, 0, 0, 0, 0, 0, 0, 0);
    }

    private static void callLeadsToTheCalled() {
        masksAre(new int[] {STORE, 0, CALL, 3, RET, 0, LOAD, 0, STORE, 0}, 0, 0, 0, 0, 0, 0);
        masksAre(new int[] {LOAD, 0, CALL, 3, RET, 0, CALL, 5, RET, 0, STORE, 0}, 0, 0, 0, 0, 0, 0, 0);
    }

    private static void calledRetLeadsToTheParent() {
        for (int first : new int[] {LOAD, STORE, SUM}) {
            for (int second : new int[] {LOAD, STORE, SUM}) {
                masksAre(new int[] {CALL, 3, second, 1, RET, 0, first, 1, RET, 0}, 0, 0, 0, 0, 0);
            }
        }
        // The next step of the parent may be a SPAWN or another CALL.
        masksAre(new int[] {CALL, 3, CALL, 3, RET, 0, STORE, 0, RET, 0}, 0, 0, 0, 0, 0, 0, 0);
        masksAre(new int[] {CALL, 3, SPAWN, 3, RET, 0, STORE, 0, RET, 0}, 0, 0, 0, 0, 0, 0, 0);
    }

    private static void spawnedRetLeadsToSync() {
        masksAre(new int[] {SPAWN, 4, SYNC, 0, STORE, 0, RET, 0, STORE, 0, LOAD, 0, RET, 0}, 0, 0, 0, 0, 0, 0, 0);
        // One SYNC for two children, with other steps in between.
        masksAre(new int[] {SPAWN, 6, SPAWN, 6, SET, 1, SYNC, 0, STORE, 0, RET, 0, LOAD, 0},
            0, 0, 0, 0, 0, 0, 0, 0, 0, 0);
        // A child made after a SYNC is not ordered by that SYNC.
        masksAre(new int[] {SPAWN, 5, SYNC, 0, SPAWN, 5, LOAD, 0, RET, 0, STORE, 0}, 0, 0, 0, 0, 0, 0, 0, 1, 0);
        // A second SYNC orders the second child.
        masksAre(new int[] {SPAWN, 6, SYNC, 0, SPAWN, 6, SYNC, 0, LOAD, 0, RET, 0, STORE, 0},
            0, 0, 0, 0, 0, 0, 0, 0, 0, 0);
    }

    private static void spawnedRetLeadsToRet() {
        // The RET of a called instance leads on to its caller.
        masksAre(new int[] {CALL, 3, LOAD, 0, RET, 0, SPAWN, 5, RET, 0, STORE, 0, RET, 0}, 0, 0, 0, 0, 0, 0, 0);
        // The RET of a spawned instance leads on at its parent's SYNC,
        masksAre(new int[] {SPAWN, 4, SYNC, 0, LOAD, 0, RET, 0, SPAWN, 6, RET, 0, STORE, 0, RET, 0},
            0, 0, 0, 0, 0, 0, 0, 0);
        // not before.
        masksAre(new int[] {SPAWN, 4, LOAD, 0, SYNC, 0, RET, 0, SPAWN, 6, RET, 0, STORE, 0, RET, 0},
            0, 0, 0, 0, 0, 1, 0, 0);
    }

    /** The only path from the first access to the second leads through the one instruction between. */
    private static void otherStepsLeadOn() {
        for (int op : new int[] {SYNC, LOAD, STORE, SUM, SET, ADD, MOVE}) {
            masksAre(new int[] {STORE, 1, op, 0, STORE, 1}, 0, 0, 0, 0);
            masksAre(new int[] {SPAWN, 2, RET, 0, STORE, 1, op, 0, STORE, 1}, 0, 0, 0, 0, 0, 0);
        }
        masksAre(new int[] {STORE, 1, JMP, 3, RET, 0, STORE, 1}, 0, 0, 0, 0);
        masksAre(new int[] {STORE, 1, JZ, 3, RET, 0, STORE, 1}, 0, 0, 0, 0);
        masksAre(new int[] {STORE, 1, SET, 5, JZ, 9, STORE, 1}, 0, 0, 0, 0, 0);
        // An access leads on itself.
        for (int first : new int[] {LOAD, STORE, SUM}) {
            for (int second : new int[] {LOAD, STORE, SUM}) {
                masksAre(new int[] {first, 1, second, 1}, 0, 0, 0);
            }
        }
    }

    private static void thereAreNoOtherEdges() {
        // From a child to what its parent does after the SPAWN there is none.
        masksAre(new int[] {SPAWN, 3, LOAD, 0, RET, 0, STORE, 0}, 0, 0, 0, 1, 0);
        // From a child to its younger sibling there is none, spawned or called.
        masksAre(new int[] {SPAWN, 3, SPAWN, 3, RET, 0, STORE, 0}, 0, 0, 0, 0, 1, 0, 0);
        masksAre(new int[] {SPAWN, 3, CALL, 3, RET, 0, STORE, 0}, 0, 0, 0, 0, 1, 0, 0);
        // Neither the SYNC nor the RET of a called instance receives one from what its caller spawned.
        masksAre(new int[] {SPAWN, 7, CALL, 4, LOAD, 0, RET, 0, SYNC, 0, LOAD, 0, RET, 0, STORE, 0},
            0, 0, 0, 0, 0, 1, 0, 1, 0);
        // The SYNC of a spawned instance receives none from its elder sibling.
        masksAre(new int[] {SPAWN, 4, SPAWN, 6, SYNC, 0, RET, 0, STORE, 0, RET, 0, SYNC, 0, LOAD, 0},
            0, 0, 0, 0, 0, 1, 0, 0, 0);
        // The SYNC of a parent gives none to a child that it spawned before.
        masksAre(new int[] {SPAWN, 5, SYNC, 0, SPAWN, 5, SPAWN, 5, RET, 0, STORE, 0},
            0, 0, 0, 0, 0, 0, 0, 0, 1, 0, 0);
    }

    /** Several instances execute the same instructions; an address says nothing of order. */
    private static void nextStepsAreOfTheVeryInstance() {
        masksAre(new int[] {SPAWN, 1, STORE, 0}, 0, 0, 0, 1, 0);
        masksAre(new int[] {SPAWN, 1, SPAWN, 2, STORE, 0}, 0, 0, 0, 0, 1, 0, 0, 1, 0, 1, 0);
        masksAre(new int[] {CALL, 1, STORE, 0}, 0, 0, 0, 0, 0);
        // The step right after the child's last one is its parent's, and not its own.
        masksAre(new int[] {SPAWN, 3, SET, 1, LOAD, 0, STORE, 0}, 0, 0, 0, 0, 1, 1, 0);
    }

    private static void retBehindTheProgramCounts() {
        // The RET of a called instance,
        masksAre(new int[] {CALL, 3, LOAD, 0, RET, 0, STORE, 0}, 0, 0, 0, 0, 0);
        masksAre(new int[] {STORE, 0, CALL, 15, LOAD, 0}, 0, 0, 0, 0, 0);
        // that of a spawned one,
        masksAre(new int[] {SPAWN, 4, SYNC, 0, LOAD, 0, RET, 0, STORE, 0}, 0, 0, 0, 0, 0, 0);
        // and that of a parent, which its child's RET leads to.
        masksAre(new int[] {CALL, 5, LOAD, 0, RET, 0, STORE, 0, RET, 0, SPAWN, 3}, 0, 0, 0, 0, 0, 0, 0);
        masksAre(new int[] {SPAWN, 6, SYNC, 0, LOAD, 0, RET, 0, STORE, 0, RET, 0, SPAWN, 4}, 0, 0, 0, 0, 0, 0, 0, 0);
    }

    private static void pathsLeadThroughInstances() {
        // From the called instance's grandchild: its RET, its parent's RET, the called one's SYNC and RET, the root.
        masksAre(new int[] {CALL, 4, STORE, 0, RET, 0, RET, 0, SPAWN, 7, SYNC, 0, RET, 0, SPAWN, 9, RET, 0, STORE, 0},
            0, 0, 0, 0, 0, 0, 0, 0, 0, 0);
        // The same without the SYNC: the RET of the called instance does it.
        masksAre(new int[] {CALL, 4, STORE, 0, RET, 0, RET, 0, SPAWN, 7, MOVE, 0, RET, 0, SPAWN, 9, RET, 0, STORE, 0},
            0, 0, 0, 0, 0, 0, 0, 0, 0, 0);
        // With a SPAWN in the CALL's place the path lacks its end.
        masksAre(new int[] {SPAWN, 4, STORE, 0, RET, 0, RET, 0, SPAWN, 7, SYNC, 0, RET, 0, SPAWN, 9, RET, 0, STORE, 0},
            0, 0, 0, 0, 0, 0, 0, 0, 1, 0);
    }

    /** A child's access, then its parent's to the cell given. */
    private static void pair(int first, int second, int cell, int mask) {
        masksAre(new int[] {SPAWN, 3, second, cell, RET, 0, first, 1}, 0, 0, 0, mask, 0);
    }

    private static void racesWithWrites() {
        for (int second : new int[] {LOAD, STORE, SUM}) {
            pair(STORE, second, 1, 1);
            pair(STORE, second, 2, 0);
            pair(STORE, second, -3, 1);
        }
    }

    private static void storesRaceWithReads() {
        for (int first : new int[] {LOAD, SUM}) {
            pair(first, STORE, 1, 2);
            pair(first, STORE, 0, 0);
            pair(first, STORE, 5, 2);
        }
    }

    private static void readsDoNotRaceWithReads() {
        for (int first : new int[] {LOAD, SUM}) {
            pair(first, LOAD, 1, 0);
            pair(first, SUM, 1, 0);
        }
        // A read that races with a write gets no 2 from the reads that are unordered with it as well.
        for (int read : new int[] {LOAD, SUM}) {
            masksAre(new int[] {SPAWN, 3, read, 1, RET, 0, LOAD, 1, STORE, 1, SUM, 1}, 0, 0, 0, 0, 0, 1, 0);
        }
    }

    private static void masksAreSums() {
        pair(LOAD, LOAD, 1, 0);
        pair(STORE, LOAD, 1, 1);
        pair(LOAD, STORE, 1, 2);
        pair(STORE, STORE, 1, 1);
        masksAre(new int[] {SPAWN, 3, STORE, 1, RET, 0, LOAD, 1, STORE, 5}, 0, 0, 0, 0, 3, 0);
        // Several writes and several reads count no more than one of each.
        masksAre(new int[] {SPAWN, 3, STORE, 1, RET, 0, LOAD, 1, STORE, 1, SUM, 1, STORE, 1}, 0, 0, 0, 0, 0, 0, 3, 0);
    }

    private static void otherStepsHaveMaskZero() {
        for (int op : new int[] {RET, SYNC, SPAWN, CALL, SET, ADD, MOVE, JZ, JMP}) {
            // The child writes and reads every cell; its parent's instruction is unordered with it.
            SeriesParallelRace x = Check.started(SPAWN, 5, op, 9, RET, 0, RET, 0, RET, 0, STORE, 0, STORE, 1,
                LOAD, 1, RET, 0);
            x.run(6);
            Check.due("step(5, 1)", op, x.step(5, 1));
            Check.masks(x, 0, 0, 0, 0, 0, 0);
        }
    }

    private static void racingStepsHaveAMask() {
        for (int second : new int[] {LOAD, STORE, SUM}) {
            for (int first : new int[] {LOAD, STORE, SUM}) {
                SeriesParallelRace x = Check.started(SPAWN, 3, second, 1, RET, 0, first, 1);
                x.run(32);
                int racing = x.racing(3) == 0 ? 0 : 1;
                Check.due("races(1)", racing, x.races(1));
                Check.due("firstRace(1)", racing == 1 ? 3 : -1, x.firstRace(1));
                Check.due("a race", first == STORE || second == STORE ? 1 : 0, racing);
            }
        }
    }

    private static void masksStayWhenLaterStepsCome() {
        SeriesParallelRace x = Check.started(SPAWN, 5, STORE, 0, SYNC, 0, STORE, 0, RET, 0, LOAD, 0);
        int[] masks = {0, 0, 0, 2, 0, 0, 0};
        for (int count = 1; count <= masks.length; count++) {
            x.run(1);
            Check.due("steps()", count, x.steps());
            for (int k = 0; k < count; k++) {
                Check.due("racing(" + k + ") after " + count + " steps", masks[k], x.racing(k));
            }
        }
        Check.due("status()", DONE, x.status());
    }

    /** However many accesses stand between, the child's only one is not forgotten. */
    private static void countsEveryEarlierAccess() {
        for (int between = 0; between <= 24; between++) {
            SeriesParallelRace x = new SeriesParallelRace(48, 4, 4, 4);
            Check.emitAll(x, SPAWN, between + 3);
            for (int i = 0; i < between; i++) {
                Check.emitAll(x, LOAD, 1 + i % 3);
            }
            Check.emitAll(x, STORE, 0, RET, 0, SUM, 0);
            x.start();
            Check.due("run(32)", DONE, x.run(32));
            Check.due("racing after " + between + " others", 2, x.racing(between + 3));
        }
    }

    private static void countsNotOnlyTheLatest() {
        // The latest accesses to the cell are the parent's own; the child's still race.
        masksAre(new int[] {SPAWN, 5, STORE, 0, LOAD, 0, STORE, 0, RET, 0, STORE, 0}, 0, 0, 0, 1, 1, 1, 0);
        masksAre(new int[] {SPAWN, 5, LOAD, 0, STORE, 0, STORE, 0, RET, 0, SUM, 0}, 0, 0, 0, 0, 2, 2, 0);
        // The latest write is ordered by a CALL, the one before by nothing.
        masksAre(new int[] {SPAWN, 4, CALL, 4, LOAD, 0, RET, 0, STORE, 0}, 0, 0, 0, 0, 1, 0, 1, 0);
    }

    /** A run that is broken off with a child awaited, then one that begins with a SYNC, then the first once more. */
    private static void forgottenRunsOrderNothing() {
        SeriesParallelRace x = Check.machine(LOAD, 3, JZ, 5, SPAWN, 8, SYNC, 0, RET, 0,
            SYNC, 0, SPAWN, 8, STORE, 0, STORE, 0, STORE, 0);
        x.poke(3, 1);
        x.start();
        Check.due("run(6)", RUNNING, x.run(6));
        Check.masks(x, 0, 0, 0, 0, 0, 0);
        x.reset();
        x.start();
        Check.due("run(32)", DONE, x.run(32));
        Check.masks(x, 0, 0, 0, 0, 0, 0, 0, 1, 1, 1, 0);
        x.reset();
        x.poke(3, 1);
        x.start();
        Check.due("run(32)", DONE, x.run(32));
        Check.masks(x, 0, 0, 0, 0, 0, 0, 0, 0);
    }

    private static void refusesStepsOutside() {
        for (int status : Machines.STATUSES) {
            SeriesParallelRace x = Machines.in(status);
            Check.outside("racing in " + status, 0, Machines.stepsIn(status) - 1, REFUSED, x::racing);
            if (status != EDIT) {
                Check.due("racing(0)", 0, x.racing(0));
                Check.due("racing of the racing step", 1, x.racing(Machines.RACING_STEP));
                Check.due("racing of the last step", status == RUNNING ? 1 : 0, x.racing(x.steps() - 1));
            }
            x.reset();
            Check.outside("racing after reset", 0, -1, REFUSED, x::racing);
            x.start();
            Check.outside("racing before a step", 0, -1, REFUSED, x::racing);
        }
    }

    /** The same races, moved from the run's beginning to its very end by idle steps. */
    private static void holdsAtEveryStepNumber() {
        // By the root and its child, at the first cell,
        movedThroughTheRun(new int[] {SPAWN, 7, LOAD, 0, STORE, 0, SYNC, 0, LOAD, 0, STORE, 0, RET, 0,
            STORE, 0, LOAD, 0}, 0, 0, 0, 0, 1, 3, 0, 0, 0, 0);
        // and by instances on the levels above, at the last cell.
        movedThroughTheRun(new int[] {CALL, 3, LOAD, -1, RET, 0, STORE, -1, SPAWN, 10, LOAD, -1, STORE, -1, SYNC, 0,
            STORE, -1, RET, 0, STORE, -1, LOAD, -1}, 0, 0, 0, 0, 0, 0, 1, 3, 0, 0, 0, 0, 0);
    }

    private static void movedThroughTheRun(int[] program, int... masks) {
        for (int idle = 0; 4 + idle + masks.length <= 128; idle++) {
            SeriesParallelRace x = new SeriesParallelRace(48, 16, 4, 4);
            // A child first, so that not all of the steps before the program are ordered with it.
            Check.emitAll(x, SPAWN, 47, SET, -(idle / 3), JZ, 5, ADD, 1, JMP, 2);
            for (int i = 0; i < idle % 3; i++) {
                Check.emitAll(x, MOVE, 0);
            }
            int base = 5 + idle % 3;
            for (int i = 0; i < program.length; i += 2) {
                boolean forks = program[i] == SPAWN || program[i] == CALL;
                Check.emitAll(x, program[i], program[i + 1] + (forks ? base : 0));
            }
            int[] all = new int[4 + idle + masks.length];
            System.arraycopy(masks, 0, all, 4 + idle, masks.length);
            twice(x, all);
        }
    }

    /** The second run must find nothing of the first. */
    private static void twice(SeriesParallelRace x, int[] masks) {
        for (int run = 0; run < 2; run++) {
            x.start();
            Check.due("the end after " + masks.length + " steps", DONE, Check.runOut(x));
            Check.masks(x, masks);
            x.reset();
        }
    }
}
