/** What every test shares: telling wrong answers, and making machines. */
final class Check {
    private static int wrong = 0;

    private Check() {
    }

    static void due(String call, long want, long got) {
        if (got != want) {
            wrong++;
            System.out.println(call + " answered " + got + ", due is " + want);
        }
    }

    static void end() {
        System.out.println(wrong == 0 ? "all answers are as due" : wrong + " answers are not as due");
        if (wrong != 0) {
            System.exit(1);
        }
    }

    static boolean failed() {
        return wrong != 0;
    }

    /** Appends a program given as opcode, arg, opcode, arg, .. */
    static void emitAll(SeriesParallelRace x, int... program) {
        int length = 0;
        while (x.code(length, 0) != Ops.REFUSED) {
            length++;
        }
        for (int i = 0; i < program.length; i += 2) {
            due("emit(" + program[i] + ", " + program[i + 1] + ")", length, x.emit(program[i], program[i + 1]));
            length++;
        }
    }

    /** A machine with 16 addresses, 4 cells, 6 levels and 12 instances. */
    static SeriesParallelRace machine(int... program) {
        SeriesParallelRace x = new SeriesParallelRace(16, 4, 6, 12);
        emitAll(x, program);
        return x;
    }

    /** The same machine, started. */
    static SeriesParallelRace started(int... program) {
        SeriesParallelRace x = machine(program);
        due("start()", Ops.OK, x.start());
        return x;
    }

    /** Compares racing(0), racing(1), .. with the masks, and that there are no more steps. */
    static void masks(SeriesParallelRace x, int... masks) {
        due("steps()", masks.length, x.steps());
        for (int k = 0; k < masks.length; k++) {
            due("racing(" + k + ")", masks[k], x.racing(k));
        }
    }

    /** Compares concurrent(0), concurrent(1), .. with the answers, and that there are no more steps. */
    static void concurrents(SeriesParallelRace x, int... answers) {
        due("steps()", answers.length, x.steps());
        for (int k = 0; k < answers.length; k++) {
            due("concurrent(" + k + ") after " + answers.length + " steps", answers[k], x.concurrent(k));
        }
    }

    /** Compares what the five questions about a level answer. */
    static void level(SeriesParallelRace x, int level, int... answers) {
        for (int what = 0; what < answers.length; what++) {
            due("frame(" + level + ", " + what + ")", answers[what], x.frame(level, what));
        }
    }

    /** Compares what the four questions about a step answer. */
    static void stepIs(SeriesParallelRace x, int k, int... answers) {
        for (int what = 0; what < answers.length; what++) {
            due("step(" + k + ", " + what + ")", answers[what], x.step(k, what));
        }
    }
}
