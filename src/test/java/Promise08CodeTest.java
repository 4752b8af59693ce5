/** Promise 8: code shows the program, in every status. */
public final class Promise08CodeTest extends Ops {
    public static void main(String[] args) {
        Check.holds("code(at, what) answers REFUSED if at is not in 0..length-1",
            Promise08CodeTest::refusesAddressesOutside);
        Check.holds("or what is not 0 or 1.", Promise08CodeTest::refusesOtherQuestions);
        Check.holds("what 0, the opcode at address at; what 1, its arg exactly as given to emit.",
            Promise08CodeTest::showsOpcodesAndArgs);
        Check.holds("This holds in every status.", Promise08CodeTest::showsInEveryStatus);
        Check.holds("A kept arg can itself be -1.", Promise08CodeTest::showsAnArgOfMinusOne);
        Check.holds("It changes nothing.", () -> Machines.changesNothing(x -> {
            for (int at : Check.AROUND) {
                x.code(at, 0);
                x.code(at, 1);
                x.code(0, at);
            }
        }));
        Check.end();
    }

    private static void refusesAddressesOutside() {
        // From the empty program to the full one, with the greatest number of addresses.
        SeriesParallelRace x = new SeriesParallelRace(48, 4, 4, 4);
        for (int length = 0; length <= 48; length++) {
            Check.outside("code(.., 0) of length " + length, 0, length - 1, REFUSED, at -> x.code(at, 0));
            Check.outside("code(.., 1) of length " + length, 0, length - 1, REFUSED, at -> x.code(at, 1));
            x.emit(SET, 5);
            if (length < 48) {
                Check.due("code(" + length + ", 0)", SET, x.code(length, 0));
            }
        }
    }

    private static void refusesOtherQuestions() {
        SeriesParallelRace x = Check.machine(SET, 5, STORE, 6);
        for (int at = -1; at <= 2; at++) {
            int one = at;
            Check.outside("code(" + at + ", ..)", 0, 1, REFUSED, what -> x.code(one, what));
        }
    }

    private static void showsOpcodesAndArgs() {
        int[] args = {LEAST, -3, 5, 11, 7, MOST, 0, 1 << 20, -1, 12, 3, 0};
        SeriesParallelRace x = Check.machine();
        for (int op = RET; op <= JMP; op++) {
            x.emit(op, args[op]);
        }
        for (int op = RET; op <= JMP; op++) {
            Check.due("code(" + op + ", 0)", op, x.code(op, 0));
            Check.due("code(" + op + ", 1)", args[op], x.code(op, 1));
        }
    }

    private static void showsInEveryStatus() {
        for (int status : Machines.STATUSES) {
            SeriesParallelRace x = Machines.in(status);
            int[] program = {LOAD, 1, SPAWN, 7, STORE, 0, x.code(3, 0), 3, RET, 0, RET, 0, RET, 0, SET, 5, STORE, 0,
                RET, -1};
            for (int i = 0; i < program.length; i++) {
                Check.due("code(" + i / 2 + ", " + i % 2 + ") in " + status, program[i], x.code(i / 2, i % 2));
            }
            Check.outside("code(.., 0) in " + status, 0, Machines.LENGTH - 1, REFUSED, at -> x.code(at, 0));
            Check.outside("code(0, ..) in " + status, 0, 1, REFUSED, what -> x.code(0, what));
        }
    }

    private static void showsAnArgOfMinusOne() {
        for (int op : new int[] {RET, SYNC, LOAD, STORE, SUM, SET, ADD, MOVE}) {
            SeriesParallelRace x = Check.machine(op, -1);
            Check.due("code(0, 0)", op, x.code(0, 0));
            Check.due("code(0, 1)", -1, x.code(0, 1));
        }
    }
}
