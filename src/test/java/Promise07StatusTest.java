/** Promise 7: status answers each of the six statuses. */
public final class Promise07StatusTest extends Ops {
    public static void main(String[] args) {
        Check.holds("status() answers the status, one of the six status values.",
            Promise07StatusTest::answersEachStatus);
        Check.holds("It changes nothing.", () -> Machines.changesNothing(SeriesParallelRace::status));
        Check.end();
    }

    private static void answersEachStatus() {
        SeriesParallelRace x = new SeriesParallelRace(8, 4, 2, 3);
        Check.due("new", EDIT, x.status());
        Check.emitAll(x, JZ, 2, RET, 0, SPAWN, 7, SPAWN, 7, SPAWN, 7);
        Check.due("after emit", EDIT, x.status());
        x.poke(1, 1);
        Check.due("after poke", EDIT, x.status());
        x.start();
        Check.due("after start", RUNNING, x.status());
        x.run(0);
        Check.due("after run(0)", RUNNING, x.status());
        x.run(5);
        Check.due("after five steps", RUNNING, x.status());
        x.run(1);
        Check.due("with all instances made", TOO_MANY, x.status());
        Check.due("asked again", TOO_MANY, x.status());
        x.reset();
        Check.due("after reset", EDIT, x.status());

        SeriesParallelRace deep = new SeriesParallelRace(8, 4, 2, 3);
        Check.emitAll(deep, CALL, 0);
        deep.start();
        deep.run(1);
        Check.due("on the deepest level", RUNNING, deep.status());
        deep.run(1);
        Check.due("a level too deep", TOO_DEEP, deep.status());

        SeriesParallelRace lasting = Check.started(JMP, 0);
        for (int i = 0; i < 4; i++) {
            lasting.run(32);
        }
        Check.due("after 128 steps", RUNNING, lasting.status());
        lasting.run(1);
        Check.due("after one try more", OUT_OF_STEPS, lasting.status());

        SeriesParallelRace brief = Check.started();
        brief.run(1);
        Check.due("after the root's end", DONE, brief.status());
    }
}
