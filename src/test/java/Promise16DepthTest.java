/** Promise 16: depth counts the instances on the stack. */
public final class Promise16DepthTest extends Ops {
    public static void main(String[] args) {
        Check.holds("depth() answers the number of instances on the stack;", Promise16DepthTest::countsTheStack);
        Check.holds("0 if the status is EDIT or DONE.", Promise16DepthTest::isZeroInEditAndDone);
        Check.holds("In the other statuses it is in 1..depthCap.", Promise16DepthTest::isWithinDepthCap);
        Check.holds("It changes nothing.", () -> Machines.changesNothing(SeriesParallelRace::depth));
        Check.end();
    }

    private static void countsTheStack() {
        SeriesParallelRace x = Check.started(CALL, 3, SPAWN, 4, RET, 0, SPAWN, 4, SYNC, 0);
        Check.due("depth() after start", 1, x.depth());
        int[] depths = {2, 3, 3, 2, 2, 1, 2, 2, 1, 0};
        for (int k = 0; k < depths.length; k++) {
            x.run(1);
            Check.due("depth() after step " + k, depths[k], x.depth());
        }
    }

    private static void isZeroInEditAndDone() {
        Check.due("depth() of a new machine", 0, Check.machine().depth());
        Check.due("depth() in EDIT", 0, Machines.in(EDIT).depth());
        Check.due("depth() in DONE", 0, Machines.in(DONE).depth());
        for (int status : Machines.STATUSES) {
            SeriesParallelRace x = Machines.in(status);
            x.reset();
            Check.due("depth() after reset in " + status, 0, x.depth());
        }
    }

    private static void isWithinDepthCap() {
        for (int status : Machines.BEHIND_EDIT) {
            Check.due("depth() in " + status, Machines.depthIn(status), Machines.in(status).depth());
        }
        for (int depthCap = 2; depthCap <= 12; depthCap++) {
            SeriesParallelRace deep = new SeriesParallelRace(8, 4, depthCap, 32);
            Check.emitAll(deep, SPAWN, 0);
            deep.start();
            for (int depth = 1; depth < depthCap; depth++) {
                Check.due("depth()", depth, deep.depth());
                Check.due("run(1)", RUNNING, deep.run(1));
            }
            Check.due("depth() of the full stack", depthCap, deep.depth());
            Check.due("run(1)", TOO_DEEP, deep.run(1));
            Check.due("depth() when too deep", depthCap, deep.depth());
        }
        SeriesParallelRace root = new SeriesParallelRace(8, 4, 12, 2);
        Check.emitAll(root, CALL, 3, SPAWN, 3);
        root.start();
        Check.due("run(32)", TOO_MANY, root.run(32));
        Check.due("depth() with too many, on the root", 1, root.depth());
    }
}
