/** Promise 9: steps counts the steps of the run. */
public final class Promise09StepsTest extends Ops {
    public static void main(String[] args) {
        SeriesParallelRace x = Check.machine(SPAWN, 2, RET, 0, SET, 1);
        Check.due("steps() in EDIT", 0, x.steps());
        x.start();
        Check.due("steps() after start", 0, x.steps());
        for (int k = 1; k <= 4; k++) {
            x.run(1);
            Check.due("steps()", k, x.steps());
            Check.due("steps() again", k, x.steps());
        }
        Check.due("status()", DONE, x.status());
        x.run(5);
        Check.due("steps() after a refused run", 4, x.steps());
        x.reset();
        Check.due("steps() after reset", 0, x.steps());

        SeriesParallelRace lasting = Check.started(JMP, 0);
        for (int i = 0; i < 6; i++) {
            lasting.run(32);
        }
        Check.due("steps() of a lasting run", 128, lasting.steps());
        lasting.reset();
        Check.due("steps() after reset", 0, lasting.steps());
        Check.end();
    }
}
