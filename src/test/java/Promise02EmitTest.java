/** Promise 2: emit appends an instruction, or is refused. */
public final class Promise02EmitTest extends Ops {
    public static void main(String[] args) {
        answersAddresses();
        refusesUnknownOpcodes();
        refusesTargetsOutside();
        keepsAnyOtherArg();
        refusesWhenFull();
        refusesOutsideEdit();
        Check.end();
    }

    private static void answersAddresses() {
        SeriesParallelRace x = new SeriesParallelRace(12, 4, 4, 4);
        x.poke(1, 9);
        for (int op = 0; op <= 11; op++) {
            Check.due("emit(" + op + ", 3)", op, x.emit(op, 3));
        }
        for (int op = 0; op <= 11; op++) {
            Check.due("code(" + op + ", 0)", op, x.code(op, 0));
            Check.due("code(" + op + ", 1)", 3, x.code(op, 1));
        }
        Check.due("cell(1)", 9, x.cell(1));
        Check.due("status()", EDIT, x.status());
    }

    private static void refusesUnknownOpcodes() {
        SeriesParallelRace x = new SeriesParallelRace(8, 4, 4, 4);
        for (int op : new int[] {-1, 12, 13, LEAST, MOST}) {
            Check.due("emit(" + op + ", 0)", REFUSED, x.emit(op, 0));
        }
        Check.due("emit(RET, 0)", 0, x.emit(RET, 0));
    }

    private static void refusesTargetsOutside() {
        SeriesParallelRace x = new SeriesParallelRace(10, 4, 4, 4);
        int length = 0;
        for (int op : new int[] {SPAWN, CALL, JZ, JMP}) {
            for (int arg : new int[] {-1, 10, 11, LEAST, MOST}) {
                Check.due("emit(" + op + ", " + arg + ")", REFUSED, x.emit(op, arg));
            }
            Check.due("emit(" + op + ", 9)", length++, x.emit(op, 9));
            Check.due("emit(" + op + ", 0)", length++, x.emit(op, 0));
        }
        Check.due("emit(RET, 0)", 8, x.emit(RET, 0));
    }

    private static void keepsAnyOtherArg() {
        for (int op : new int[] {RET, SYNC, LOAD, STORE, SUM, SET, ADD, MOVE}) {
            SeriesParallelRace x = new SeriesParallelRace(8, 4, 4, 4);
            int[] kept = {-1, LEAST, MOST, 8, 0, 100};
            for (int at = 0; at < kept.length; at++) {
                Check.due("emit(" + op + ", " + kept[at] + ")", at, x.emit(op, kept[at]));
            }
            for (int at = 0; at < kept.length; at++) {
                Check.due("code(" + at + ", 0)", op, x.code(at, 0));
                Check.due("code(" + at + ", 1)", kept[at], x.code(at, 1));
            }
        }
    }

    private static void refusesWhenFull() {
        SeriesParallelRace x = new SeriesParallelRace(8, 4, 4, 4);
        for (int at = 0; at < 8; at++) {
            Check.due("emit(SET, " + at + ")", at, x.emit(SET, at));
        }
        Check.due("emit into a full program", REFUSED, x.emit(ADD, 1));
        Check.due("code(7, 0)", SET, x.code(7, 0));
        Check.due("code(7, 1)", 7, x.code(7, 1));
        Check.due("code(8, 0)", REFUSED, x.code(8, 0));
    }

    private static void refusesOutsideEdit() {
        SeriesParallelRace x = Check.started(SET, 5);
        Check.due("emit while running", REFUSED, x.emit(RET, 0));
        Check.due("run(32)", DONE, x.run(32));
        Check.due("emit when done", REFUSED, x.emit(RET, 0));
        Check.due("code(1, 0)", REFUSED, x.code(1, 0));
        x.reset();
        Check.due("emit after reset", 1, x.emit(RET, 0));
    }
}
