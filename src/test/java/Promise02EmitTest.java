/** Promise 2: emit appends an instruction, or is refused. */
public final class Promise02EmitTest extends Ops {
    private static final int[] WITH_TARGET = {SPAWN, CALL, JZ, JMP};
    private static final int[] WITHOUT_TARGET = {RET, SYNC, LOAD, STORE, SUM, SET, ADD, MOVE};

    public static void main(String[] args) {
        Check.holds("the status is not EDIT;", Promise02EmitTest::refusesOutsideEdit);
        Check.holds("op is not in 0..11;", Promise02EmitTest::refusesUnknownOpcodes);
        Check.holds("op is SPAWN, CALL, JZ or JMP and arg is not in 0..codeCap-1;",
            Promise02EmitTest::refusesTargetsOutside);
        Check.holds("length is codeCap.", Promise02EmitTest::refusesWhenFull);
        Check.holds("emit(op, arg) is refused, in this order, if:", Promise02EmitTest::refusesForSeveralReasons);
        Check.holds("Otherwise (op, arg) is put at address length, length grows by 1, "
            + "and the answer is the address it was put at (the length before the call).",
            Promise02EmitTest::answersAddresses);
        Check.holds("For the other opcodes any int arg is taken and kept;", Promise02EmitTest::keepsAnyOtherArg);
        Check.holds("RET and SYNC ignore it when executed.", Promise02EmitTest::retAndSyncIgnoreTheirArg);
        Check.holds("A target in 0..codeCap-1 is accepted even if no instruction stands at that address.",
            Promise02EmitTest::acceptsTargetsBehindTheProgram);
        Check.holds("Earlier instructions, cells and status do not change.", Promise02EmitTest::changesNothingElse);
        Check.end();
    }

    private static void refusesOutsideEdit() {
        for (int status : Machines.BEHIND_EDIT) {
            SeriesParallelRace x = Machines.in(status);
            for (int op = RET; op <= JMP; op++) {
                int one = op;
                Machines.refuses("emit(" + op + ", 2) in status " + status, x, () -> x.emit(one, 2));
            }
            x.reset();
            Check.due("emit in EDIT again", Machines.LENGTH, x.emit(SET, 2));
        }
    }

    private static void refusesUnknownOpcodes() {
        SeriesParallelRace x = Check.machine(SET, 4);
        Check.outside("emit(.., 0)", RET, JMP, REFUSED, op -> x.emit(op, 0));
        Check.outside("emit(.., -1)", RET, JMP, REFUSED, op -> x.emit(op, -1));
        Machines.refuses("emit(-1, 0)", x, () -> x.emit(-1, 0));
        Machines.refuses("emit(12, 0)", x, () -> x.emit(12, 0));
        Check.due("emit(RET, 0)", 1, x.emit(RET, 0));
        Check.due("emit(JMP, 0)", 2, x.emit(JMP, 0));
    }

    private static void refusesTargetsOutside() {
        for (int codeCap : new int[] {8, 9, 20, 47, 48}) {
            SeriesParallelRace x = new SeriesParallelRace(codeCap, 4, 4, 4);
            int length = 0;
            for (int op : WITH_TARGET) {
                String call = "emit(" + op + ", ..) with codeCap " + codeCap;
                Check.outside(call, 0, codeCap - 1, REFUSED, arg -> x.emit(op, arg));
                Machines.refuses(call, x, () -> x.emit(op, -1));
                Machines.refuses(call, x, () -> x.emit(op, codeCap));
                Check.due(call, length++, x.emit(op, 0));
                Check.due(call, length++, x.emit(op, codeCap - 1));
            }
        }
    }

    private static void refusesWhenFull() {
        for (int codeCap : new int[] {8, 9, 20, 47, 48}) {
            SeriesParallelRace x = new SeriesParallelRace(codeCap, 4, 4, 4);
            for (int at = 0; at < codeCap; at++) {
                Check.due("emit(SET, " + at + ")", at, x.emit(SET, at));
            }
            for (int op = RET; op <= JMP; op++) {
                int one = op;
                Machines.refuses("emit(" + op + ", 7) at length " + codeCap, x, () -> x.emit(one, 7));
            }
            x.start();
            x.reset();
            Machines.refuses("emit at length " + codeCap + " after reset", x, () -> x.emit(RET, 0));
        }
    }

    /** All reasons have the same answer, so no order shows, but none may hide another. */
    private static void refusesForSeveralReasons() {
        SeriesParallelRace full = new SeriesParallelRace(8, 4, 4, 4);
        Check.emitAll(full, RET, 0, RET, 0, RET, 0, RET, 0, RET, 0, RET, 0, RET, 0, RET, 0);
        for (int status : new int[] {EDIT, RUNNING}) {
            Machines.refuses("emit(12, 99), full, in status " + status, full, () -> full.emit(12, 99));
            Machines.refuses("emit(JZ, 8), full, in status " + status, full, () -> full.emit(JZ, 8));
            Machines.refuses("emit(SET, 1), full, in status " + status, full, () -> full.emit(SET, 1));
            full.start();
        }
        SeriesParallelRace running = Machines.in(RUNNING);
        Machines.refuses("emit(-1, 0) in RUNNING", running, () -> running.emit(-1, 0));
        Machines.refuses("emit(CALL, -1) in RUNNING", running, () -> running.emit(CALL, -1));
    }

    private static void answersAddresses() {
        SeriesParallelRace x = new SeriesParallelRace(12, 4, 4, 4);
        for (int op = RET; op <= JMP; op++) {
            Check.due("code(" + op + ", 0) before", REFUSED, x.code(op, 0));
            Check.due("emit(" + op + ", 11 - " + op + ")", op, x.emit(op, 11 - op));
            Check.due("code(" + op + ", 0)", op, x.code(op, 0));
            Check.due("code(" + op + ", 1)", 11 - op, x.code(op, 1));
        }
        SeriesParallelRace greatest = new SeriesParallelRace(48, 4, 4, 4);
        for (int at = 0; at < 48; at++) {
            Check.due("emit(ADD, " + at + ")", at, greatest.emit(ADD, at));
        }
    }

    private static void keepsAnyOtherArg() {
        for (int op : WITHOUT_TARGET) {
            SeriesParallelRace x = new SeriesParallelRace(8, 4, 4, 4);
            int[] kept = {-1, LEAST, MOST, 8, 0, 100, LEAST + 1, 1 << 16};
            for (int at = 0; at < kept.length; at++) {
                Check.due("emit(" + op + ", " + kept[at] + ")", at, x.emit(op, kept[at]));
            }
            for (int at = 0; at < kept.length; at++) {
                Check.due("code(" + at + ", 0)", op, x.code(at, 0));
                Check.due("code(" + at + ", 1)", kept[at], x.code(at, 1));
            }
        }
    }

    private static void retAndSyncIgnoreTheirArg() {
        for (int arg : Check.AROUND) {
            SeriesParallelRace x = Check.started(SET, 2, MOVE, 3, SYNC, arg, CALL, 5, RET, arg, RET, arg);
            x.run(3);
            Check.level(x, 0, 3, 0, 2, 3, 0);
            Check.due("run(2)", RUNNING, x.run(2));
            Check.level(x, 0, 4, 0, 2, 3, 0);
            Check.due("run(1)", DONE, x.run(1));
            Check.cells(x, 0, 0, 0, 0);
        }
    }

    private static void acceptsTargetsBehindTheProgram() {
        for (int op : WITH_TARGET) {
            for (int target = 0; target < 16; target++) {
                SeriesParallelRace x = Check.machine();
                Check.due("emit(" + op + ", " + target + ")", 0, x.emit(op, target));
                Check.due("code(0, 1)", target, x.code(0, 1));
            }
        }
    }

    private static void changesNothingElse() {
        SeriesParallelRace x = Check.machine();
        for (int c = 0; c < 4; c++) {
            x.poke(c, c - 2);
        }
        for (int length = 0; length < 16; length++) {
            for (int at = 0; at < length; at++) {
                Check.due("code(" + at + ", 0)", at % 12, x.code(at, 0));
                Check.due("code(" + at + ", 1)", 15 - at, x.code(at, 1));
            }
            Check.cells(x, -2, -1, 0, 1);
            Check.due("status()", EDIT, x.status());
            x.emit(length % 12, 15 - length);
        }
    }
}
