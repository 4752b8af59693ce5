/** Promise 8: code shows the program, in every status. */
public final class Promise08CodeTest extends Ops {
    public static void main(String[] args) {
        SeriesParallelRace x = Check.machine(SET, -1, STORE, LEAST, JMP, 15);
        shows(x);
        x.start();
        shows(x);
        x.run(2);
        shows(x);
        Check.due("run(32)", DONE, x.run(32));
        shows(x);
        x.reset();
        shows(x);
        SeriesParallelRace empty = Check.machine();
        Check.due("code(0, 0) of no program", REFUSED, empty.code(0, 0));
        Check.due("code(-1, 0) of no program", REFUSED, empty.code(-1, 0));
        Check.end();
    }

    private static void shows(SeriesParallelRace x) {
        int[][] program = {{SET, -1}, {STORE, LEAST}, {JMP, 15}};
        for (int at = 0; at < 3; at++) {
            Check.due("code(" + at + ", 0)", program[at][0], x.code(at, 0));
            Check.due("code(" + at + ", 1)", program[at][1], x.code(at, 1));
            for (int what : new int[] {-1, 2, 3, LEAST, MOST}) {
                Check.due("code(" + at + ", " + what + ")", REFUSED, x.code(at, what));
            }
        }
        for (int at : new int[] {-1, 3, 15, 16, 48, LEAST, MOST}) {
            Check.due("code(" + at + ", 0)", REFUSED, x.code(at, 0));
            Check.due("code(" + at + ", 1)", REFUSED, x.code(at, 1));
        }
    }
}
