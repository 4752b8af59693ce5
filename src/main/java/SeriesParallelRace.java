/**
 * A fork-join machine that runs a small program in slices of steps and tells
 * which accesses to its cells race with earlier accesses of the same run.
 *
 * The graph of a run is never kept as edges. Each level of the stack carries
 * the set of steps that lead to its next step, and each access is judged
 * against that set at the moment it is executed; later steps can't change it.
 */
public final class SeriesParallelRace {
    public static final int OK = 0;
    public static final int REFUSED = -1;

    public static final int EDIT = 0;
    public static final int RUNNING = 1;
    public static final int DONE = 2;
    public static final int OUT_OF_STEPS = 3;
    public static final int TOO_DEEP = 4;
    public static final int TOO_MANY = 5;

    public static final int RET = 0;
    public static final int SYNC = 1;
    public static final int SPAWN = 2;
    public static final int CALL = 3;
    public static final int LOAD = 4;
    public static final int STORE = 5;
    public static final int SUM = 6;
    public static final int SET = 7;
    public static final int ADD = 8;
    public static final int MOVE = 9;
    public static final int JZ = 10;
    public static final int JMP = 11;

    public static final int MAX_STEPS = 128;
    public static final int MAX_SLICE = 32;

    private static final int LEAST_CODE = 8;
    private static final int MOST_CODE = 48;
    private static final int LEAST_CELLS = 2;
    private static final int MOST_CELLS = 16;
    private static final int LEAST_DEPTH = 2;
    private static final int MOST_DEPTH = 12;
    private static final int LEAST_INSTANCES = 2;
    private static final int MOST_INSTANCES = 32;

    private static final int NONE = -1;
    private static final int RACES_WITH_WRITE = 1;
    private static final int RACES_WITH_READ = 2;

    // A set of steps takes two longs, a bit for each of the MAX_STEPS steps:
    // set s of an array stands in its words 2 * s and 2 * s + 1.
    private static final int WORDS_OF_LEVELS = 2 * MOST_DEPTH;
    private static final int WORDS_OF_CELLS = 2 * MOST_CELLS;

    private final int codeCap;
    private final int cellCount;
    private final int depthCap;
    private final int instanceCap;

    private final int[] codeOp = new int[MOST_CODE];
    private final int[] codeArg = new int[MOST_CODE];
    private int codeLength;

    private final int[] cells = new int[MOST_CELLS];
    private int state;

    private final int[] stepAddress = new int[MAX_STEPS];
    private final int[] stepOp = new int[MAX_STEPS];
    private final int[] stepInstance = new int[MAX_STEPS];
    private final int[] stepCell = new int[MAX_STEPS];
    private final int[] stepMask = new int[MAX_STEPS];
    private int stepCount;

    private final int[] levelAddress = new int[MOST_DEPTH];
    private final int[] levelInstance = new int[MOST_DEPTH];
    private final int[] levelA = new int[MOST_DEPTH];
    private final int[] levelX = new int[MOST_DEPTH];
    private final int[] levelSpawned = new int[MOST_DEPTH];
    private int levelCount;
    private int instancesMade;

    // Of each level: the steps that lead to its next step, whatever that is,
    // and those that lead to it only if it is a SYNC or a RET.
    private final long[] before = new long[WORDS_OF_LEVELS];
    private final long[] awaited = new long[WORDS_OF_LEVELS];

    // Of each cell: the steps of the run that read it, and those that wrote it.
    private final long[] readers = new long[WORDS_OF_CELLS];
    private final long[] writers = new long[WORDS_OF_CELLS];

    public SeriesParallelRace(int codeCap, int cellCount, int depthCap, int instanceCap) {
        this.codeCap = clamp(codeCap, LEAST_CODE, MOST_CODE);
        this.cellCount = clamp(cellCount, LEAST_CELLS, MOST_CELLS);
        this.depthCap = clamp(depthCap, LEAST_DEPTH, MOST_DEPTH);
        this.instanceCap = clamp(instanceCap, LEAST_INSTANCES, MOST_INSTANCES);
        this.state = EDIT;
    }

    public int emit(int op, int arg) {
        if (state != EDIT || !isWithin(op, RET, JMP)) {
            return REFUSED;
        }
        if (takesTarget(op) && !isWithin(arg, 0, codeCap - 1)) {
            return REFUSED;
        }
        if (codeLength == codeCap) {
            return REFUSED;
        }
        int at = codeLength;
        codeOp[at] = op;
        codeArg[at] = arg;
        codeLength = at + 1;
        return at;
    }

    public int poke(int c, int value) {
        if (state != EDIT || !isCell(c)) {
            return REFUSED;
        }
        cells[c] = value;
        return OK;
    }

    public int start() {
        if (state != EDIT) {
            return REFUSED;
        }
        // In EDIT there is no run that would have to be forgotten first.
        makeInstance(0, 0, 0, 0);
        state = RUNNING;
        return OK;
    }

    public int run(int n) {
        if (state != RUNNING) {
            return REFUSED;
        }
        int slice = clamp(n, 0, MAX_SLICE);
        for (int done = 0; done < slice && state == RUNNING; done++) {
            advance();
        }
        return state;
    }

    public void reset() {
        forgetRun();
        for (int c = 0; c < MOST_CELLS; c++) {
            cells[c] = 0;
        }
        state = EDIT;
    }

    public int status() {
        return state;
    }

    public int code(int at, int what) {
        if (!isWithin(at, 0, codeLength - 1)) {
            return REFUSED;
        }
        switch (what) {
            case 0:
                return codeOp[at];
            case 1:
                return codeArg[at];
            default:
                return REFUSED;
        }
    }

    public int steps() {
        return stepCount;
    }

    public int step(int k, int what) {
        if (!isStep(k)) {
            return REFUSED;
        }
        switch (what) {
            case 0:
                return stepAddress[k];
            case 1:
                return stepOp[k];
            case 2:
                return stepInstance[k];
            case 3:
                return stepCell[k];
            default:
                return REFUSED;
        }
    }

    public int racing(int k) {
        return isStep(k) ? stepMask[k] : REFUSED;
    }

    public int concurrent(int k) {
        if (levelCount == 0 || !isStep(k)) {
            return REFUSED;
        }
        return hasStep(before, levelCount - 1, k) ? 0 : 1;
    }

    public int cell(int c) {
        return isCell(c) ? cells[c] : 0;
    }

    public int races(int c) {
        if (!isCell(c)) {
            return REFUSED;
        }
        int count = 0;
        for (int k = 0; k < stepCount; k++) {
            if (racesOn(k, c)) {
                count++;
            }
        }
        return count;
    }

    public int firstRace(int c) {
        // Without this a c of -1 would match the steps that are no access.
        if (!isCell(c)) {
            return NONE;
        }
        for (int k = 0; k < stepCount; k++) {
            if (racesOn(k, c)) {
                return k;
            }
        }
        return NONE;
    }

    public int depth() {
        return levelCount;
    }

    public int frame(int level, int what) {
        if (!isWithin(level, 0, levelCount - 1)) {
            return REFUSED;
        }
        switch (what) {
            case 0:
                return levelAddress[level];
            case 1:
                return levelInstance[level];
            case 2:
                return levelA[level];
            case 3:
                return levelX[level];
            case 4:
                return levelSpawned[level];
            default:
                return REFUSED;
        }
    }

    private static int clamp(int value, int least, int most) {
        if (value < least) {
            return least;
        }
        return value > most ? most : value;
    }

    private static boolean isWithin(int value, int least, int most) {
        return least <= value && value <= most;
    }

    private boolean isCell(int c) {
        return isWithin(c, 0, cellCount - 1);
    }

    private boolean isStep(int k) {
        return isWithin(k, 0, stepCount - 1);
    }

    private boolean racesOn(int k, int c) {
        return stepCell[k] == c && stepMask[k] != 0;
    }

    private static boolean takesTarget(int op) {
        return makesInstance(op) || op == JZ || op == JMP;
    }

    private static boolean makesInstance(int op) {
        return op == SPAWN || op == CALL;
    }

    private static boolean isAccess(int op) {
        return op == LOAD || op == STORE || op == SUM;
    }

    private void forgetRun() {
        stepCount = 0;
        levelCount = 0;
        instancesMade = 0;
        for (int c = 0; c < MOST_CELLS; c++) {
            clearSet(readers, c);
            clearSet(writers, c);
        }
    }

    private void advance() {
        int level = levelCount - 1;
        int at = levelAddress[level];
        int op = at < codeLength ? codeOp[at] : RET;
        int arg = at < codeLength ? codeArg[at] : 0;
        if (stepCount == MAX_STEPS) {
            state = OUT_OF_STEPS;
        } else if (makesInstance(op) && levelCount == depthCap) {
            state = TOO_DEEP;
        } else if (makesInstance(op) && instancesMade == instanceCap) {
            state = TOO_MANY;
        } else {
            int touched = isAccess(op) ? cellFor(level, arg) : NONE;
            recordStep(level, at, op, touched);
            levelAddress[level] = at + 1;
            execute(level, op, arg, touched);
        }
    }

    private int cellFor(int level, int arg) {
        int rest = (arg + levelX[level]) % cellCount;
        return rest < 0 ? rest + cellCount : rest;
    }

    private void recordStep(int level, int at, int op, int touched) {
        int k = stepCount;
        if (op == SYNC || op == RET) {
            addSet(awaited, level, before, level);
            clearSet(awaited, level);
        }
        stepAddress[k] = at;
        stepOp[k] = op;
        stepInstance[k] = levelInstance[level];
        stepCell[k] = touched;
        stepMask[k] = 0;
        if (touched != NONE) {
            stepMask[k] = maskOf(level, op, touched);
            noteAccess(op, touched, k);
        }
        addStep(before, level, k);
        stepCount = k + 1;
    }

    private int maskOf(int level, int op, int touched) {
        int mask = 0;
        if (hasUnordered(writers, touched, level)) {
            mask += RACES_WITH_WRITE;
        }
        if (op == STORE && hasUnordered(readers, touched, level)) {
            mask += RACES_WITH_READ;
        }
        return mask;
    }

    private void noteAccess(int op, int touched, int k) {
        if (op == STORE) {
            addStep(writers, touched, k);
        } else {
            addStep(readers, touched, k);
        }
    }

    private void execute(int level, int op, int arg, int touched) {
        switch (op) {
            case RET:
                endInstance(level);
                break;
            case SPAWN:
                makeInstance(arg, levelA[level], levelX[level], 1);
                break;
            case CALL:
                makeInstance(arg, levelA[level], levelX[level], 0);
                break;
            case LOAD:
                levelA[level] = cells[touched];
                break;
            case STORE:
                cells[touched] = levelA[level];
                break;
            case SUM:
                levelA[level] += cells[touched];
                break;
            case SET:
                levelA[level] = arg;
                break;
            case ADD:
                levelA[level] += arg;
                break;
            case MOVE:
                levelX[level] += arg;
                break;
            case JZ:
                if (levelA[level] == 0) {
                    levelAddress[level] = arg;
                }
                break;
            case JMP:
                levelAddress[level] = arg;
                break;
            default:
                break;
        }
    }

    private void makeInstance(int address, int a, int x, int spawned) {
        int level = levelCount;
        levelAddress[level] = address;
        levelInstance[level] = instancesMade;
        levelA[level] = a;
        levelX[level] = x;
        levelSpawned[level] = spawned;
        // An instance that stood on this level before may have left its sets.
        clearSet(before, level);
        clearSet(awaited, level);
        if (level > 0) {
            addSet(before, level - 1, before, level);
        }
        levelCount = level + 1;
        instancesMade++;
    }

    private void endInstance(int level) {
        levelCount = level;
        if (level == 0) {
            state = DONE;
            return;
        }
        int parent = level - 1;
        if (levelSpawned[level] == 1) {
            addSet(before, level, awaited, parent);
        } else {
            levelA[parent] = levelA[level];
            // Adding is enough: whatever leads to the call leads to this end.
            addSet(before, level, before, parent);
        }
    }

    private boolean hasUnordered(long[] accesses, int c, int level) {
        long low = accesses[2 * c] & ~before[2 * level];
        long high = accesses[2 * c + 1] & ~before[2 * level + 1];
        return (low | high) != 0L;
    }

    private static boolean hasStep(long[] sets, int s, int k) {
        return (sets[2 * s + (k >> 6)] >> (k & 63) & 1L) == 1L;
    }

    private static void addStep(long[] sets, int s, int k) {
        sets[2 * s + (k >> 6)] |= 1L << (k & 63);
    }

    private static void addSet(long[] from, int source, long[] to, int target) {
        to[2 * target] |= from[2 * source];
        to[2 * target + 1] |= from[2 * source + 1];
    }

    private static void clearSet(long[] sets, int s) {
        sets[2 * s] = 0L;
        sets[2 * s + 1] = 0L;
    }
}
