import java.util.ArrayList;
import java.util.Arrays;
import java.util.List;

/**
 * The machine in the document's own words: it keeps every step, draws the
 * edges of promise 11 one by one, and searches them for paths when it is asked.
 */
final class Model extends Ops {
    /** An executed step; or, with no address, the one that concurrent supposes. */
    private static final class Step {
        int address;
        int op;
        int instance;
        int cell = -1;
        int made = -1;
    }

    private static final class Instance {
        int number;
        int parent = -1;
        boolean spawned;
        int next;
        int a;
        int x;
    }

    final int codeCap;
    final int cellCount;
    final int depthCap;
    final int instanceCap;
    private final List<int[]> program = new ArrayList<>();
    private final List<Step> trace = new ArrayList<>();
    private final List<Instance> instances = new ArrayList<>();
    private final List<Instance> stack = new ArrayList<>();
    private final List<Integer> masks = new ArrayList<>();
    private int[] cells;
    private int status = EDIT;

    Model(int codeCap, int cellCount, int depthCap, int instanceCap) {
        this.codeCap = Math.max(8, Math.min(48, codeCap));
        this.cellCount = Math.max(2, Math.min(16, cellCount));
        this.depthCap = Math.max(2, Math.min(12, depthCap));
        this.instanceCap = Math.max(2, Math.min(32, instanceCap));
        cells = new int[this.cellCount];
    }

    int emit(int op, int arg) {
        boolean target = op == SPAWN || op == CALL || op == JZ || op == JMP;
        if (status != EDIT || op < 0 || op > 11 || target && (arg < 0 || arg >= codeCap) || program.size() == codeCap) {
            return REFUSED;
        }
        program.add(new int[] {op, arg});
        return program.size() - 1;
    }

    int poke(int c, int value) {
        if (status != EDIT || c < 0 || c >= cellCount) {
            return REFUSED;
        }
        cells[c] = value;
        return OK;
    }

    int start() {
        if (status != EDIT) {
            return REFUSED;
        }
        status = RUNNING;
        Instance root = new Instance();
        instances.add(root);
        stack.add(root);
        return OK;
    }

    void reset() {
        status = EDIT;
        cells = new int[cellCount];
        trace.clear();
        instances.clear();
        stack.clear();
        masks.clear();
    }

    int run(int n) {
        if (status != RUNNING) {
            return REFUSED;
        }
        int executed = 0;
        while (status == RUNNING && executed < Math.min(n, 32)) {
            Instance current = current();
            boolean within = current.next < program.size();
            int op = within ? program.get(current.next)[0] : RET;
            boolean forks = op == SPAWN || op == CALL;
            if (trace.size() == 128) {
                status = OUT_OF_STEPS;
            } else if (forks && stack.size() == depthCap) {
                status = TOO_DEEP;
            } else if (forks && instances.size() == instanceCap) {
                status = TOO_MANY;
            } else {
                execute(current, op, within ? program.get(current.next)[1] : 0);
                executed++;
            }
        }
        return status;
    }

    private Instance current() {
        return stack.get(stack.size() - 1);
    }

    private void execute(Instance current, int op, int arg) {
        Step step = new Step();
        step.address = current.next;
        step.op = op;
        step.instance = current.number;
        if (op == LOAD || op == STORE || op == SUM) {
            step.cell = Math.floorMod(arg + current.x, cellCount);
        }
        trace.add(step);
        current.next++;
        if (op == RET) {
            stack.remove(stack.size() - 1);
            if (stack.isEmpty()) {
                status = DONE;
            } else if (!current.spawned) {
                current().a = current.a;
            }
        } else if (op == SPAWN || op == CALL) {
            Instance child = new Instance();
            child.number = instances.size();
            child.parent = current.number;
            child.spawned = op == SPAWN;
            child.next = arg;
            child.a = current.a;
            child.x = current.x;
            step.made = child.number;
            instances.add(child);
            stack.add(child);
        } else if (op == LOAD) {
            current.a = cells[step.cell];
        } else if (op == STORE) {
            cells[step.cell] = current.a;
        } else if (op == SUM) {
            current.a += cells[step.cell];
        } else if (op == SET) {
            current.a = arg;
        } else if (op == ADD) {
            current.a += arg;
        } else if (op == MOVE) {
            current.x += arg;
        } else if (op == JMP || op == JZ && current.a == 0) {
            current.next = arg;
        }
        masks.add(maskOf(trace.size() - 1));
    }

    private int maskOf(int k) {
        Step step = trace.get(k);
        if (step.cell < 0) {
            return 0;
        }
        boolean[] ordered = stepsLeadingTo(k);
        boolean write = false;
        boolean read = false;
        for (int j = 0; j < k; j++) {
            if (trace.get(j).cell == step.cell && !ordered[j]) {
                write |= trace.get(j).op == STORE;
                read |= trace.get(j).op != STORE;
            }
        }
        return (write ? 1 : 0) + (step.op == STORE && read ? 2 : 0);
    }

    /** Edges lead to later steps only, so one pass back from k finds every step with a path to it. */
    private boolean[] stepsLeadingTo(int k) {
        boolean[] leads = new boolean[k + 1];
        leads[k] = true;
        for (int j = k - 1; j >= 0; j--) {
            for (int far : edgesFrom(j)) {
                leads[j] |= far >= 0 && far <= k && leads[far];
            }
        }
        return leads;
    }

    private int[] edgesFrom(int j) {
        Step step = trace.get(j);
        Instance by = instances.get(step.instance);
        switch (step.op) {
            case SPAWN:
                return new int[] {nextOf(step.made, j), nextOf(step.instance, j)};
            case CALL:
                return new int[] {nextOf(step.made, j)};
            case RET:
                return new int[] {by.spawned ? nextJoinOf(by.parent, j) : nextOf(by.parent, j)};
            default:
                return new int[] {nextOf(step.instance, j)};
        }
    }

    private int nextOf(int instance, int after) {
        for (int k = after + 1; k < trace.size(); k++) {
            if (trace.get(k).instance == instance) {
                return k;
            }
        }
        return -1;
    }

    private int nextJoinOf(int instance, int after) {
        for (int k = after + 1; k < trace.size(); k++) {
            Step step = trace.get(k);
            if (step.instance == instance && (step.op == SYNC || step.op == RET)) {
                return k;
            }
        }
        return -1;
    }

    int status() {
        return status;
    }

    int code(int at, int what) {
        return at < 0 || at >= program.size() || what < 0 || what > 1 ? REFUSED : program.get(at)[what];
    }

    int steps() {
        return trace.size();
    }

    int step(int k, int what) {
        if (k < 0 || k >= trace.size() || what < 0 || what > 3) {
            return REFUSED;
        }
        Step step = trace.get(k);
        return new int[] {step.address, step.op, step.instance, step.cell}[what];
    }

    int racing(int k) {
        return k < 0 || k >= trace.size() ? REFUSED : masks.get(k);
    }

    /** The answers of concurrent for all steps so far; the supposed LOAD is put into the trace and taken out again. */
    int[] concurrents() {
        int[] answers = new int[trace.size()];
        if (stack.isEmpty()) {
            Arrays.fill(answers, REFUSED);
            return answers;
        }
        Step supposed = new Step();
        supposed.op = LOAD;
        supposed.instance = current().number;
        trace.add(supposed);
        boolean[] leads = stepsLeadingTo(trace.size() - 1);
        trace.remove(trace.size() - 1);
        for (int k = 0; k < answers.length; k++) {
            answers[k] = leads[k] ? 0 : 1;
        }
        return answers;
    }

    int cell(int c) {
        return c < 0 || c >= cellCount ? 0 : cells[c];
    }

    int races(int c) {
        if (c < 0 || c >= cellCount) {
            return REFUSED;
        }
        int count = 0;
        for (int k = 0; k < trace.size(); k++) {
            count += trace.get(k).cell == c && masks.get(k) > 0 ? 1 : 0;
        }
        return count;
    }

    int firstRace(int c) {
        for (int k = 0; k < trace.size() && c >= 0; k++) {
            if (trace.get(k).cell == c && masks.get(k) > 0) {
                return k;
            }
        }
        return -1;
    }

    int depth() {
        return stack.size();
    }

    int frame(int level, int what) {
        if (level < 0 || level >= stack.size() || what < 0 || what > 4) {
            return REFUSED;
        }
        Instance one = stack.get(level);
        return new int[] {one.next, one.number, one.a, one.x, one.spawned ? 1 : 0}[what];
    }
}
