/** Promise 16: depth counts the instances on the stack. */
public final class Promise16DepthTest extends Ops {
    public static void main(String[] args) {
        SeriesParallelRace x = Check.machine(CALL, 3, SPAWN, 4, RET, 0, SPAWN, 4, SYNC, 0);
        Check.due("depth() in EDIT", 0, x.depth());
        x.start();
        Check.due("depth() after start", 1, x.depth());
        int[] depths = {2, 3, 3, 2, 2, 1, 2, 2, 1, 0};
        for (int k = 0; k < depths.length; k++) {
            x.run(1);
            Check.due("depth() after step " + k, depths[k], x.depth());
        }
        Check.due("status()", DONE, x.status());
        x.reset();
        Check.due("depth() after reset", 0, x.depth());

        SeriesParallelRace deep = new SeriesParallelRace(8, 4, 12, 32);
        Check.emitAll(deep, SPAWN, 0);
        deep.start();
        for (int k = 1; k <= 11; k++) {
            deep.run(1);
            Check.due("depth()", k + 1, deep.depth());
        }
        Check.due("run(1)", TOO_DEEP, deep.run(1));
        Check.due("depth() when too deep", 12, deep.depth());
        deep.reset();
        Check.due("depth() after reset", 0, deep.depth());

        SeriesParallelRace many = new SeriesParallelRace(8, 4, 4, 2);
        Check.emitAll(many, CALL, 0);
        many.start();
        Check.due("run(32)", TOO_MANY, many.run(32));
        Check.due("depth() with too many", 2, many.depth());
        Check.end();
    }
}
