/** Promise 17: frame shows the levels of the stack. */
public final class Promise17FrameTest extends Ops {
    public static void main(String[] args) {
        Check.holds("frame(level, what) answers REFUSED if level is not in 0..depth()-1",
            Promise17FrameTest::refusesLevelsOutside);
        Check.holds("(so always in EDIT and DONE)", Promise17FrameTest::refusesInEditAndDone);
        Check.holds("or what is not in 0..4.", Promise17FrameTest::refusesOtherQuestions);
        Check.holds("its next address", () -> showsEachLevel(0));
        Check.holds("(it can be >= length);", Promise17FrameTest::showsAddressesBehind);
        Check.holds("its number;", () -> showsEachLevel(1));
        Check.holds("its A;", () -> showsEachLevel(2));
        Check.holds("its X;", () -> showsEachLevel(3));
        Check.holds("1 if it was made by SPAWN, 0 if by CALL or if it is the root.", () -> showsEachLevel(4));
        Check.holds("A and X can themselves be -1.", Promise17FrameTest::showsMinusOne);
        Check.holds("It changes nothing.", () -> Machines.changesNothing(x -> {
            for (int level : Check.AROUND) {
                for (int what = -1; what <= 5; what++) {
                    x.frame(level, what);
                }
            }
        }));
        Check.end();
    }

    private static void refusesLevelsOutside() {
        for (int what = 0; what <= 4; what++) {
            int one = what;
            for (int status : Machines.STATUSES) {
                SeriesParallelRace x = Machines.in(status);
                int top = Machines.depthIn(status) - 1;
                Check.outside("frame(.., " + what + ") in " + status, 0, top, REFUSED, level -> x.frame(level, one));
            }
            // The levels that ended instances stood on are outside again.
            SeriesParallelRace x = new SeriesParallelRace(8, 4, 12, 32);
            Check.emitAll(x, LOAD, 0, ADD, 1, STORE, 0, ADD, -12, JZ, 7, CALL, 0);
            x.start();
            Check.due("run(32)", RUNNING, x.run(32));
            Check.due("run(32)", RUNNING, x.run(32));
            Check.due("run(7)", RUNNING, x.run(7));
            for (int depth = 12; depth >= 1; depth--) {
                Check.due("depth()", depth, x.depth());
                Check.outside("frame(.., " + what + ")", 0, depth - 1, REFUSED, level -> x.frame(level, one));
                Check.due("frame(top, 1)", depth - 1, x.frame(depth - 1, 1));
                x.run(1);
            }
            Check.outside("frame(.., " + what + ") at the end", 0, -1, REFUSED, level -> x.frame(level, one));
        }
    }

    private static void refusesInEditAndDone() {
        SeriesParallelRace[] machines = {Check.machine(), Machines.in(EDIT), Machines.in(DONE),
            Machines.in(TOO_DEEP), Machines.in(TOO_MANY), Machines.in(OUT_OF_STEPS)};
        for (int i = 3; i < machines.length; i++) {
            machines[i].reset();
        }
        for (SeriesParallelRace x : machines) {
            for (int what = -1; what <= 5; what++) {
                int one = what;
                Check.outside("frame(.., " + what + ")", 0, -1, REFUSED, level -> x.frame(level, one));
            }
        }
    }

    private static void refusesOtherQuestions() {
        for (int status : Machines.STATUSES) {
            SeriesParallelRace x = Machines.in(status);
            for (int level = -1; level <= Machines.depthIn(status); level++) {
                int one = level;
                Check.outside("frame(" + level + ", ..) in " + status, 0, 4, REFUSED, what -> x.frame(one, what));
            }
        }
    }

    private static void showsEachLevel(int what) {
        SeriesParallelRace x = Check.started(SET, -1, MOVE, -1, CALL, 5, SPAWN, 15, RET, 0,
            SET, 8, SPAWN, 8, RET, 0, MOVE, 4, CALL, 11);
        levels(x, what, new int[][] {{0, 0, 0, 0, 0}});
        x.run(7);
        levels(x, what, new int[][] {{3, 0, -1, -1, 0}, {7, 1, 8, -1, 0}, {10, 2, 8, 3, 1}, {11, 3, 8, 3, 0}});
        // Three instances end; the root then makes a fourth one on a level used before.
        x.run(3);
        levels(x, what, new int[][] {{3, 0, 8, -1, 0}});
        x.run(1);
        levels(x, what, new int[][] {{4, 0, 8, -1, 0}, {15, 4, 8, -1, 1}});
        Check.due("run(2)", DONE, x.run(2));

        int[][] stopped = {{4, 0, 9, 0, 0}, {4, 2, 9, 0, 0}, {3, 3, 9, 0, 0}};
        levels(Machines.in(TOO_DEEP), what, stopped);
        levels(Machines.in(TOO_MANY), what, stopped);
        levels(Machines.in(OUT_OF_STEPS), what, new int[][] {{3, 0, 9, 0, 0}});
    }

    private static void levels(SeriesParallelRace x, int what, int[][] levels) {
        Check.due("depth()", levels.length, x.depth());
        for (int level = 0; level < levels.length; level++) {
            Check.due("frame(" + level + ", " + what + ")", levels[level][what], x.frame(level, what));
        }
    }

    private static void showsAddressesBehind() {
        for (int target = 1; target < 16; target++) {
            SeriesParallelRace x = Check.started(SPAWN, target);
            x.run(1);
            Check.due("frame(0, 0)", 1, x.frame(0, 0));
            Check.due("frame(1, 0)", target, x.frame(1, 0));
        }
        SeriesParallelRace full = new SeriesParallelRace(48, 4, 4, 4);
        for (int at = 0; at < 48; at++) {
            full.emit(at == 0 ? JMP : SYNC, 47);
        }
        full.start();
        full.run(2);
        Check.due("frame(0, 0)", 48, full.frame(0, 0));
    }

    private static void showsMinusOne() {
        SeriesParallelRace x = Check.started(SET, -1, MOVE, -1, CALL, 15);
        x.run(3);
        for (int level = 0; level < 2; level++) {
            Check.due("frame(" + level + ", 2)", -1, x.frame(level, 2));
            Check.due("frame(" + level + ", 3)", -1, x.frame(level, 3));
        }
    }
}
