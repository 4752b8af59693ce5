import java.util.Arrays;

/** All promises: generated programs and calls, every answer compared with the model's. */
public final class ModelTest extends Ops {
    private static final int OBJECTS = 3000;

    private long seed;
    private final int flavour;
    private final Model model;
    private final SeriesParallelRace x;

    private ModelTest(int number) {
        seed = number;
        flavour = pick(0, 5);
        int codeCap = pick(-2, 52);
        int cellCount = pick(0, 18);
        int depthCap = pick(0, 14);
        int instanceCap = pick(0, 36);
        model = new Model(codeCap, cellCount, depthCap, instanceCap);
        x = new SeriesParallelRace(codeCap, cellCount, depthCap, instanceCap);
    }

    public static void main(String[] args) {
        int[] stops = new int[6];
        int racing = 0;
        for (int number = 1; number <= OBJECTS && !Check.failed(); number++) {
            ModelTest test = new ModelTest(number);
            test.live();
            stops[test.x.status()]++;
            for (int k = 0; k < test.x.steps(); k++) {
                racing += test.x.racing(k) > 0 ? 1 : 0;
            }
            if (Check.failed()) {
                System.out.println("in object " + number);
            }
        }
        System.out.println("statuses at the end: " + Arrays.toString(stops) + ", racing steps: " + racing);
        // The comparison says little unless it met every way to end, and races.
        for (int status = DONE; status <= TOO_MANY; status++) {
            Check.due("enough runs with status " + status, 1, stops[status] >= OBJECTS / 50 ? 1 : 0);
        }
        Check.due("enough racing steps", 1, racing >= OBJECTS ? 1 : 0);
        Check.end();
    }

    /** The same numbers for the same object, always. */
    private int pick(int least, int most) {
        seed = seed * 6364136223846793005L + 1442695040888963407L;
        return least + (int) ((seed >>> 33) % (most - least + 1));
    }

    private void live() {
        int runs = pick(1, 3);
        for (int run = 0; run < runs; run++) {
            if (run > 0) {
                model.reset();
                x.reset();
                compare();
            }
            edit();
            due("start()", model.start(), x.start());
            compare();
            for (int i = 0; i < 40 && model.status() == RUNNING; i++) {
                if (run < runs - 1 && pick(0, 9) == 0) {
                    break;
                }
                slice();
                compare();
            }
            refusedCalls();
            compare();
        }
    }

    private void edit() {
        int length = pick(flavour >= 4 ? model.codeCap / 2 : 0, model.codeCap + 2);
        for (int i = 0; i < length; i++) {
            int op = opcode();
            int arg = argument(op, flavour >= 4 ? Math.min(i + 1, model.codeCap - 1) : 0);
            due("emit(" + op + ", " + arg + ")", model.emit(op, arg), x.emit(op, arg));
        }
        for (int i = pick(0, 6); i > 0; i--) {
            int c = pick(-1, model.cellCount);
            int value = pick(0, 3) == 0 ? anyInt() : pick(-2, 2);
            due("poke(" + c + ", " + value + ")", model.poke(c, value), x.poke(c, value));
        }
        compare();
    }

    /** Flavours: even, many forks, many accesses, long loops, and two of forks and accesses without loops. */
    private int opcode() {
        if (pick(0, 60) == 0) {
            return pick(-2, 13);
        }
        if (flavour == 1 && pick(0, 2) == 0) {
            return pick(SYNC, CALL);
        }
        if (flavour == 2 && pick(0, 1) == 0) {
            return pick(LOAD, SUM);
        }
        if (flavour == 3) {
            return pick(0, 1) == 0 ? pick(LOAD, MOVE) : pick(JZ, JMP);
        }
        if (flavour >= 4) {
            int[] most = {SPAWN, SPAWN, CALL, LOAD, LOAD, STORE, STORE, SUM};
            return pick(0, 3) > 0 ? most[pick(0, most.length - 1)] : pick(0, 9);
        }
        return pick(0, 11);
    }

    private int argument(int op, int leastTarget) {
        if (op == SPAWN || op == CALL || op == JZ || op == JMP) {
            return pick(0, 30) == 0 ? pick(-3, 60) : pick(leastTarget, model.codeCap - 1);
        }
        if (pick(0, flavour >= 4 ? 40 : 7) == 0) {
            return anyInt();
        }
        // Few cells are used, so that accesses meet.
        return op == MOVE ? pick(-1, 1) : pick(0, 2);
    }

    private int anyInt() {
        int[] edges = {LEAST, LEAST + 1, MOST, MOST - 1, pick(0, MOST - 1) * 2 + 1};
        return edges[pick(0, edges.length - 1)];
    }

    private void slice() {
        int[] slices = {1, 1, 2, 5, 13, 31, 32, 33, 0, -1, LEAST, MOST};
        int n = slices[pick(0, slices.length - 1)];
        due("run(" + n + ")", model.run(n), x.run(n));
    }

    private void refusedCalls() {
        due("emit(7, 1)", model.emit(7, 1), x.emit(7, 1));
        due("poke(0, 1)", model.poke(0, 1), x.poke(0, 1));
        due("start()", model.start(), x.start());
        if (model.status() != RUNNING) {
            due("run(3)", model.run(3), x.run(3));
        }
    }

    private void compare() {
        due("status()", model.status(), x.status());
        due("steps()", model.steps(), x.steps());
        due("depth()", model.depth(), x.depth());
        for (int at = -1; at <= model.codeCap; at++) {
            for (int what = -1; what <= 2; what++) {
                due("code(" + at + ", " + what + ")", model.code(at, what), x.code(at, what));
            }
        }
        int[] concurrents = model.concurrents();
        for (int k = -1; k <= model.steps(); k++) {
            for (int what = -1; what <= 4; what++) {
                due("step(" + k + ", " + what + ")", model.step(k, what), x.step(k, what));
            }
            due("racing(" + k + ")", model.racing(k), x.racing(k));
            boolean within = k >= 0 && k < concurrents.length;
            due("concurrent(" + k + ")", within ? concurrents[k] : REFUSED, x.concurrent(k));
        }
        for (int c = -1; c <= 17; c++) {
            due("cell(" + c + ")", model.cell(c), x.cell(c));
            due("races(" + c + ")", model.races(c), x.races(c));
            due("firstRace(" + c + ")", model.firstRace(c), x.firstRace(c));
        }
        for (int level = -1; level <= 13; level++) {
            for (int what = -1; what <= 5; what++) {
                due("frame(" + level + ", " + what + ")", model.frame(level, what), x.frame(level, what));
            }
        }
    }

    private static void due(String call, int want, int got) {
        Check.due(call, want, got);
    }
}
