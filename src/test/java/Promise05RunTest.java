/** Promise 5, instances and the call: slices, the three limits and their order. */
public final class Promise05RunTest extends Ops {
    public static void main(String[] args) {
        Check.holds("numbered 0, 1, 2, .. in the order of their creation in this run; 0 is the root.",
            Promise05RunTest::numbersInstances);
        Check.holds("level 0 is the root, the topmost level, depth()-1, is the current instance; only it executes.",
            Promise05RunTest::onlyTheTopmostExecutes);
        Check.holds("run(n) is refused if the status is not RUNNING, whatever n is.",
            Promise05RunTest::refusesUnlessRunning);
        Check.holds("n is clamped to 0..MAX_SLICE (a negative n counts as 0, an n above 32 as 32).",
            Promise05RunTest::clampsTheSlice);
        Check.holds("As long as the status is RUNNING and fewer than n steps have been executed by this call",
            Promise05RunTest::stopsWithinASlice);
        limits();
        lastStepsOfACall();
        Check.end();
    }

    private static void limits() {
        Check.holds("if the run has MAX_STEPS steps, the status becomes OUT_OF_STEPS;",
            Promise05RunTest::stopsAtMaxSteps);
        Check.holds("is SPAWN or CALL and depth() is depthCap, the status becomes TOO_DEEP;",
            Promise05RunTest::stopsWhenTooDeep);
        Check.holds("if it is SPAWN or CALL and instanceCap instances",
            Promise05RunTest::stopsWhenTooMany);
        Check.holds("(the root and ended ones included) were made in this run, the status becomes TOO_MANY;",
            Promise05RunTest::countsEndedInstancesOfThisRun);
        Check.holds("else the instruction is executed, as one step.", Promise05RunTest::otherInstructionsGoOn);
        Check.holds("the following is done, in this order:", Promise05RunTest::looksAtTheLimitsInOrder);
        Check.holds("In cases 1 to 3 no step is executed and nothing but the status changes;",
            Promise05RunTest::limitsChangeTheStatusAlone);
        Check.holds("stack, cells and steps stay and can be asked, including what earlier steps of the same call did.",
            Promise05RunTest::keepsEarlierStepsOfTheCall);
    }

    private static void lastStepsOfACall() {
        Check.holds("The answer is the status at the end of the call.", Promise05RunTest::answersTheStatus);
        Check.holds("With n clamped to 0 nothing changes and the answer is RUNNING.",
            Promise05RunTest::emptySlicesChangeNothing);
        Check.holds("When the n-th step of the call has been executed, cases 1 to 3 are not considered again "
            + "in that call:", Promise05RunTest::limitsWaitForTheNextCall);
        Check.holds("a run that has just reached MAX_STEPS steps with the n-th step of the call stays RUNNING "
            + "until a later call with n at least 1.", Promise05RunTest::staysRunningAtMaxSteps);
        Check.holds("If the root ends with that very step, the status is DONE.",
            Promise05RunTest::endsWithTheVeryLastStep);
    }

    private static SeriesParallelRace startedWith(int depthCap, int instanceCap, int... program) {
        SeriesParallelRace x = new SeriesParallelRace(48, 4, depthCap, instanceCap);
        Check.emitAll(x, program);
        x.start();
        return x;
    }

    /** Instance 2 is made by 1 while 3 and 4 are still to come from the root. */
    private static void numbersInstances() {
        SeriesParallelRace x = Check.started(SPAWN, 5, CALL, 9, SPAWN, 9, RET, 0, RET, 0, CALL, 9);
        for (int run = 0; run < 2; run++) {
            Check.due("run(32)", DONE, x.run(32));
            int[] instances = {0, 1, 2, 1, 0, 3, 0, 4, 0};
            Check.due("steps()", instances.length, x.steps());
            for (int k = 0; k < instances.length; k++) {
                Check.due("step(" + k + ", 2)", instances[k], x.step(k, 2));
            }
            x.reset();
            x.start();
        }
    }

    private static void onlyTheTopmostExecutes() {
        SeriesParallelRace x = Check.started(ADD, 1, MOVE, 2, CALL, 0);
        for (int k = 0; k < 15; k++) {
            int current = x.frame(x.depth() - 1, 1);
            int[] below = new int[5 * (x.depth() - 1)];
            for (int i = 0; i < below.length; i++) {
                below[i] = x.frame(i / 5, i % 5);
            }
            Check.due("frame(0, 1)", 0, x.frame(0, 1));
            x.run(1);
            Check.due("step(" + k + ", 2)", current, x.step(k, 2));
            for (int i = 0; i < below.length; i++) {
                Check.due("frame(" + i / 5 + ", " + i % 5 + ")", below[i], x.frame(i / 5, i % 5));
            }
        }
        Check.due("depth()", 6, x.depth());
    }

    private static void refusesUnlessRunning() {
        for (int status : Machines.STATUSES) {
            SeriesParallelRace x = Machines.in(status);
            for (int n : Check.AROUND) {
                if (status != RUNNING) {
                    Machines.refuses("run(" + n + ") in status " + status, x, () -> x.run(n));
                }
            }
        }
    }

    private static void clampsTheSlice() {
        for (int n : Check.AROUND) {
            SeriesParallelRace x = Check.started(JMP, 0);
            Check.due("run(" + n + ")", RUNNING, x.run(n));
            Check.due("steps() after run(" + n + ")", Math.max(0, Math.min(32, n)), x.steps());
            Check.due("run(1)", RUNNING, x.run(1));
            Check.due("steps()", Math.max(0, Math.min(32, n)) + 1, x.steps());
        }
    }

    private static void stopsWithinASlice() {
        for (int n = 1; n <= 32; n++) {
            SeriesParallelRace x = Check.started(SET, 1, ADD, 2, STORE, 0, RET, 0, STORE, 1);
            Check.due("run(" + n + ")", n < 4 ? RUNNING : DONE, x.run(n));
            Check.due("steps() after run(" + n + ")", Math.min(n, 4), x.steps());
            Check.due("cell(1)", 0, x.cell(1));
        }
    }

    private static SeriesParallelRace after128(int... program) {
        SeriesParallelRace x = startedWith(6, 12, program);
        for (int i = 0; i < 4; i++) {
            Check.due("run(32)", RUNNING, x.run(32));
        }
        Check.due("steps()", 128, x.steps());
        return x;
    }

    private static void stopsAtMaxSteps() {
        SeriesParallelRace exact = after128(ADD, 1, JMP, 0);
        Check.due("run(1)", OUT_OF_STEPS, exact.run(1));
        Check.due("status()", OUT_OF_STEPS, exact.status());
        Check.due("steps()", 128, exact.steps());
        Check.level(exact, 0, 0, 0, 64, 0, 0);
        // The 128th step is still executed within a call that goes past it.
        SeriesParallelRace within = Check.started(ADD, 1, JMP, 0);
        within.run(31);
        for (int i = 0; i < 3; i++) {
            Check.due("run(32)", RUNNING, within.run(32));
        }
        Check.due("steps()", 127, within.steps());
        Check.due("run(2) with one step left", OUT_OF_STEPS, within.run(2));
        Check.due("steps()", 128, within.steps());
        Check.level(within, 0, 0, 0, 64, 0, 0);
    }

    private static void stopsWhenTooDeep() {
        for (int op : new int[] {SPAWN, CALL}) {
            for (int depthCap = 2; depthCap <= 12; depthCap++) {
                SeriesParallelRace x = startedWith(depthCap, 32, ADD, 1, op, 0);
                Check.due("run to the deepest level", RUNNING, x.run(2 * depthCap - 1));
                Check.due("depth()", depthCap, x.depth());
                Check.due("run(1)", TOO_DEEP, x.run(1));
                Check.due("status()", TOO_DEEP, x.status());
                Check.due("steps()", 2 * depthCap - 1, x.steps());
                Check.level(x, depthCap - 1, 1, depthCap - 1, depthCap, 0, op == SPAWN ? 1 : 0);
            }
        }
    }

    private static void stopsWhenTooMany() {
        for (int op : new int[] {SPAWN, CALL}) {
            for (int instanceCap = 2; instanceCap <= 11; instanceCap++) {
                SeriesParallelRace x = startedWith(12, instanceCap, op, 0);
                Check.due("run to the last instance", RUNNING, x.run(instanceCap - 1));
                Check.due("frame(top, 1)", instanceCap - 1, x.frame(instanceCap - 1, 1));
                Check.due("run(1)", TOO_MANY, x.run(1));
                Check.due("status()", TOO_MANY, x.status());
                Check.due("steps()", instanceCap - 1, x.steps());
                Check.due("depth()", instanceCap, x.depth());
            }
        }
    }

    private static void countsEndedInstancesOfThisRun() {
        for (int op : new int[] {SPAWN, CALL}) {
            for (int instanceCap = 2; instanceCap <= 32; instanceCap++) {
                SeriesParallelRace x = startedWith(2, instanceCap, op, 7, JMP, 0);
                for (int run = 0; run < 3; run++) {
                    Check.due("a program that makes one after another", TOO_MANY, Check.runOut(x));
                    Check.due("steps()", 3 * (instanceCap - 1), x.steps());
                    Check.due("depth()", 1, x.depth());
                    x.reset();
                    x.start();
                }
            }
        }
    }

    /** With every level and every instance used, each opcode but SPAWN and CALL is still executed. */
    private static void otherInstructionsGoOn() {
        for (int op : new int[] {RET, SYNC, LOAD, STORE, SUM, SET, ADD, MOVE, JZ, JMP}) {
            SeriesParallelRace x = startedWith(2, 2, CALL, 1, op, 5);
            Check.due("run(1)", RUNNING, x.run(1));
            Check.due("depth()", 2, x.depth());
            Check.due("run(1) of opcode " + op, RUNNING, x.run(1));
            Check.due("steps()", 2, x.steps());
            Check.due("step(1, 1)", op, x.step(1, 1));
        }
    }

    private static void looksAtTheLimitsInOrder() {
        Check.due("deep and many", TOO_DEEP, Check.runOut(startedWith(3, 3, SPAWN, 0)));
        Check.due("many, not deep", TOO_MANY, Check.runOut(startedWith(4, 3, SPAWN, 0)));
        Check.due("deep, not many", TOO_DEEP, Check.runOut(startedWith(3, 4, SPAWN, 0)));
        // After 128 steps the next instruction is a SPAWN or CALL, with the levels or the instances or both used up.
        int[][] caps = {{2, 2}, {2, 32}, {12, 2}};
        for (int[] cap : caps) {
            for (int op : new int[] {SPAWN, CALL}) {
                SeriesParallelRace x = startedWith(cap[0], cap[1], op, 1, SET, -40, MOVE, 0, JZ, 6, ADD, 1, JMP, 3,
                    MOVE, 0, MOVE, 0, MOVE, 0, MOVE, 0, op, 0);
                for (int i = 0; i < 4; i++) {
                    Check.due("run(32)", RUNNING, x.run(32));
                }
                Check.due("frame(1, 0)", 10, x.frame(1, 0));
                Check.due("out of steps, and deep or many", OUT_OF_STEPS, x.run(1));
            }
        }
    }

    /** Machines that have the limit before them: the next call that may execute a step meets it. */
    private static SeriesParallelRace[] beforeTheLimits() {
        SeriesParallelRace deep = startedWith(3, 32, SET, 6, STORE, 1, CALL, 0);
        deep.run(8);
        SeriesParallelRace many = startedWith(12, 3, SET, 6, STORE, 2, SPAWN, 0);
        many.run(8);
        return new SeriesParallelRace[] {after128(ADD, 1, STORE, 3, JMP, 0), deep, many};
    }

    private static void limitsChangeTheStatusAlone() {
        int[] due = {OUT_OF_STEPS, TOO_DEEP, TOO_MANY};
        for (int n : new int[] {1, 2, 32, MOST}) {
            SeriesParallelRace[] machines = beforeTheLimits();
            for (int i = 0; i < 3; i++) {
                int[] answers = Machines.answers(machines[i]);
                Check.due("status() before", RUNNING, answers[0]);
                Check.due("run(" + n + ")", due[i], machines[i].run(n));
                answers[0] = due[i];
                Machines.same("at a limit", answers, Machines.answers(machines[i]));
            }
        }
    }

    private static void keepsEarlierStepsOfTheCall() {
        SeriesParallelRace deep = startedWith(2, 32, SET, 6, CALL, 2, STORE, 3, SPAWN, 0);
        Check.due("run(32)", TOO_DEEP, deep.run(32));
        Check.due("steps()", 3, deep.steps());
        Check.cells(deep, 0, 0, 0, 6);
        Check.stepIs(deep, 2, 2, STORE, 1, 3);
        Check.level(deep, 0, 2, 0, 6, 0, 0);
        Check.level(deep, 1, 3, 1, 6, 0, 0);

        SeriesParallelRace many = startedWith(12, 2, SPAWN, 3, STORE, 3, CALL, 0, SET, 6, STORE, 3);
        Check.due("run(32)", TOO_MANY, many.run(32));
        Check.masks(many, 0, 0, 0, 0, 1);
        Check.cells(many, 0, 0, 0, 0);
        Check.stepIs(many, 4, 1, STORE, 0, 3);
        Check.level(many, 0, 2, 0, 0, 0, 0);

        SeriesParallelRace lasting = startedWith(12, 32, ADD, 1, STORE, 2, JMP, 0);
        for (int i = 0; i < 3; i++) {
            lasting.run(32);
        }
        lasting.run(20);
        Check.due("run(32)", OUT_OF_STEPS, lasting.run(32));
        Check.stepIs(lasting, 127, 1, STORE, 0, 2);
        Check.cells(lasting, 0, 0, 43, 0);
        Check.level(lasting, 0, 2, 0, 43, 0, 0);
    }

    private static void answersTheStatus() {
        SeriesParallelRace x = Check.started(SET, 1, RET, 0);
        Check.due("run(1)", RUNNING, x.run(1));
        Check.due("run(1)", DONE, x.run(1));
        int[] due = {OUT_OF_STEPS, TOO_DEEP, TOO_MANY};
        SeriesParallelRace[] machines = beforeTheLimits();
        for (int i = 0; i < 3; i++) {
            Check.due("run(5)", due[i], machines[i].run(5));
            Check.due("status()", due[i], machines[i].status());
        }
    }

    private static void emptySlicesChangeNothing() {
        SeriesParallelRace[] limited = beforeTheLimits();
        SeriesParallelRace[] machines = {Check.started(), Check.started(SPAWN, 1), Machines.in(RUNNING),
            limited[0], limited[1], limited[2]};
        for (SeriesParallelRace x : machines) {
            for (int n : new int[] {0, -1, -32, LEAST}) {
                int[] answers = Machines.answers(x);
                Check.due("run(" + n + ")", RUNNING, x.run(n));
                Machines.same("after run(" + n + ")", answers, Machines.answers(x));
            }
        }
    }

    private static void limitsWaitForTheNextCall() {
        // The eighth step of one call brings each of these to its limit.
        SeriesParallelRace deep = startedWith(3, 32, SET, 6, STORE, 1, CALL, 0);
        Check.due("run(8) to the deepest level's CALL", RUNNING, deep.run(8));
        Check.due("steps()", 8, deep.steps());
        Check.due("run(1)", TOO_DEEP, deep.run(1));
        SeriesParallelRace many = startedWith(12, 3, SET, 6, STORE, 2, SPAWN, 0);
        Check.due("run(8) to the last instance's SPAWN", RUNNING, many.run(8));
        Check.due("steps()", 8, many.steps());
        Check.due("run(1)", TOO_MANY, many.run(1));
        SeriesParallelRace within = startedWith(3, 32, SET, 6, STORE, 1, CALL, 0);
        Check.due("run(9)", TOO_DEEP, within.run(9));
        Check.due("steps()", 8, within.steps());
    }

    private static void staysRunningAtMaxSteps() {
        SeriesParallelRace x = after128(ADD, 1, JMP, 0);
        Check.due("status()", RUNNING, x.status());
        for (int n : new int[] {0, -1, LEAST}) {
            Check.due("run(" + n + ")", RUNNING, x.run(n));
            Check.due("status()", RUNNING, x.status());
        }
        Check.due("run(1)", OUT_OF_STEPS, x.run(1));
    }

    /** 127 steps before the root's RET: JZ leaves the loop when A has come to 0. */
    private static void endsWithTheVeryLastStep() {
        SeriesParallelRace x = Check.started(SET, -41, MOVE, 0, JZ, 5, ADD, 1, JMP, 2, MOVE, 0);
        for (int i = 0; i < 3; i++) {
            Check.due("run(32)", RUNNING, x.run(32));
        }
        Check.due("run(32) that ends with step 127", DONE, x.run(32));
        Check.due("steps()", 128, x.steps());
        Check.stepIs(x, 127, 6, RET, 0, -1);
        Check.due("depth()", 0, x.depth());
        SeriesParallelRace brief = Check.started(SET, 1, RET, 0);
        Check.due("run(2) that ends with its second step", DONE, brief.run(2));
    }
}
