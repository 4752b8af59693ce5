/** Promise 9: steps counts the steps of the run. */
public final class Promise09StepsTest extends Ops {
    public static void main(String[] args) {
        Check.holds("steps() answers the number of steps of the run so far, 0 to MAX_STEPS;",
            Promise09StepsTest::countsSteps);
        Check.holds("0 if the status is EDIT.", Promise09StepsTest::isZeroInEdit);
        Check.holds("After the run has stopped, for whatever reason, the number stays until reset.",
            Promise09StepsTest::staysUntilReset);
        Check.holds("It changes nothing.", () -> Machines.changesNothing(SeriesParallelRace::steps));
        Check.end();
    }

    private static void countsSteps() {
        SeriesParallelRace x = Check.started(SPAWN, 2, JMP, 0, SET, 1);
        Check.due("steps() after start", 0, x.steps());
        for (int k = 1; k <= 40; k++) {
            x.run(1);
            Check.due("steps()", k, x.steps());
            Check.due("steps() again", k, x.steps());
        }
        SeriesParallelRace lasting = Check.started(JMP, 0);
        for (int k = 1; k <= 140; k++) {
            lasting.run(1);
            Check.due("steps() of a lasting run", Math.min(k, 128), lasting.steps());
        }
    }

    private static void isZeroInEdit() {
        Check.due("steps() of a new machine", 0, Check.machine().steps());
        for (int status : Machines.STATUSES) {
            SeriesParallelRace x = Machines.in(status);
            x.reset();
            Check.due("steps() in EDIT", 0, x.steps());
            x.emit(SET, 1);
            x.poke(0, 1);
            Check.due("steps() in EDIT", 0, x.steps());
        }
    }

    private static void staysUntilReset() {
        for (int status : Machines.STOPPED) {
            SeriesParallelRace x = Machines.in(status);
            for (int i = 0; i < 3; i++) {
                Check.due("steps() in " + status, Machines.stepsIn(status), x.steps());
                x.run(32);
                x.start();
                x.emit(SET, 1);
                x.poke(0, 1);
            }
            x.reset();
            Check.due("steps() after reset", 0, x.steps());
        }
    }
}
