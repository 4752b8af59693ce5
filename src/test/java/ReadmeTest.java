/** The example in README.md, line by line: each call answers what the README says behind it. */
public final class ReadmeTest extends Ops {
    public static void main(String[] args) {
        SeriesParallelRace x = new SeriesParallelRace(16, 4, 6, 12);
        Check.due("emit(SPAWN, 3)", 0, x.emit(SeriesParallelRace.SPAWN, 3));
        Check.due("emit(LOAD, 0)", 1, x.emit(SeriesParallelRace.LOAD, 0));
        Check.due("emit(RET, 0)", 2, x.emit(SeriesParallelRace.RET, 0));
        Check.due("emit(STORE, 0)", 3, x.emit(SeriesParallelRace.STORE, 0));
        Check.due("start()", OK, x.start());
        Check.due("run(3)", RUNNING, x.run(3));
        Check.due("depth()", 1, x.depth());
        Check.due("concurrent(1)", 1, x.concurrent(1));
        Check.due("run(32)", DONE, x.run(32));
        Check.due("steps()", 5, x.steps());
        Check.due("races(0)", 1, x.races(0));
        Check.due("firstRace(0)", 3, x.firstRace(0));
        Check.due("racing(3)", 1, x.racing(3));
        Check.due("step(3, 1)", LOAD, x.step(3, 1));
        x.reset();
        Check.due("status() after reset()", EDIT, x.status());
        Check.due("steps() after reset()", 0, x.steps());
        Check.due("code(3, 0) after reset()", STORE, x.code(3, 0));
        Check.end();
    }
}
