/** Promise 15: firstRace answers the first racing step of a cell. */
public final class Promise15FirstRaceTest extends Ops {
    public static void main(String[] args) {
        Check.holds("firstRace(c) answers the least number of a racing step that accesses cell c;",
            Promise15FirstRaceTest::answersTheLeastNumber);
        Check.holds("-1 if there is none", Promise15FirstRaceTest::isMinusOneWithoutRaces);
        Check.holds("(so also in status EDIT)", Promise15FirstRaceTest::isMinusOneInEdit);
        Check.holds("or c is not in 0..cellCount-1.", Promise15FirstRaceTest::isMinusOneOutside);
        Check.holds("It changes nothing.", () -> Machines.changesNothing(x -> {
            for (int c : Check.AROUND) {
                x.firstRace(c);
            }
        }));
        Check.end();
    }

    private static void answersTheLeastNumber() {
        SeriesParallelRace x = Check.started(SPAWN, 7, LOAD, 3, STORE, 1, STORE, 1, LOAD, 2, RET, 0, RET, 0,
            LOAD, 3, LOAD, 1, STORE, 2);
        int[][] firsts = {{-1, -1}, {-1, -1}, {-1, -1}, {-1, -1}, {-1, -1}, {-1, -1}, {6, -1}, {6, -1}, {6, 8}, {6, 8}};
        for (int[] due : firsts) {
            x.run(1);
            Check.due("firstRace(1) after " + x.steps() + " steps", due[0], x.firstRace(1));
            Check.due("firstRace(2) after " + x.steps() + " steps", due[1], x.firstRace(2));
        }
        Check.due("status()", DONE, x.status());
        Check.due("racing(7)", 2, x.racing(7));
        for (int status : Machines.BEHIND_EDIT) {
            Check.due("firstRace(0) in " + status, Machines.RACING_STEP, Machines.in(status).firstRace(0));
        }
        // The very last step of the longest run is the only one that races.
        SeriesParallelRace last = Check.started(SPAWN, 8, SET, -40, JZ, 5, ADD, 1, JMP, 2, MOVE, 0, MOVE, 0, LOAD, 3,
            STORE, 3);
        for (int i = 0; i < 4; i++) {
            Check.due("run(32)", RUNNING, last.run(32));
        }
        Check.stepIs(last, 127, 7, LOAD, 0, 3);
        Check.due("firstRace(3)", 127, last.firstRace(3));
    }

    private static void isMinusOneWithoutRaces() {
        for (int status : Machines.BEHIND_EDIT) {
            SeriesParallelRace x = Machines.in(status);
            for (int c = 1; c < 4; c++) {
                Check.due("firstRace(" + c + ") in " + status, -1, x.firstRace(c));
            }
        }
        // Cell 3 is read twice, unordered, and cell 0 is written and read in order.
        SeriesParallelRace x = Check.started(STORE, 0, LOAD, 0, SPAWN, 5, LOAD, 3, RET, 0, LOAD, 3);
        Check.due("firstRace(0) before a step", -1, x.firstRace(0));
        Check.due("run(32)", DONE, x.run(32));
        for (int c = 0; c < 4; c++) {
            Check.due("firstRace(" + c + ")", -1, x.firstRace(c));
        }
    }

    private static void isMinusOneInEdit() {
        Check.due("firstRace(0) of a new machine", -1, Check.machine().firstRace(0));
        for (int status : Machines.STATUSES) {
            SeriesParallelRace x = Machines.in(status);
            x.reset();
            for (int c = 0; c < 4; c++) {
                Check.due("firstRace(" + c + ") after reset in " + status, -1, x.firstRace(c));
            }
        }
    }

    private static void isMinusOneOutside() {
        for (int status : Machines.STATUSES) {
            Check.outside("firstRace in " + status, 0, 3, -1, Machines.in(status)::firstRace);
        }
        // Every cell of the machine races, so that no other's race may be taken for that of a cell outside.
        SeriesParallelRace x = new SeriesParallelRace(8, 2, 4, 4);
        Check.emitAll(x, SPAWN, 1, STORE, 0, STORE, 1);
        x.start();
        Check.due("run(32)", DONE, x.run(32));
        Check.due("firstRace(0)", 4, x.firstRace(0));
        Check.due("firstRace(1)", 5, x.firstRace(1));
        Check.outside("firstRace of 2", 0, 1, -1, x::firstRace);
    }
}
