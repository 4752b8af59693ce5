import java.util.function.IntUnaryOperator;

/** What every test shares: telling wrong answers under the sentence that they break, and making machines. */
final class Check {
    /** Ints around the edges of every range that the document names. */
    static final int[] AROUND = {Ops.LEAST, Ops.LEAST + 1, -129, -2, -1, 0, 1, 2, 3, 4, 5, 6, 7, 8, 9, 10, 11, 12, 13,
        14, 15, 16, 17, 31, 32, 33, 47, 48, 49, 127, 128, 129, Ops.MOST - 1, Ops.MOST};

    private static int wrong = 0;
    private static String sentence = "";
    private static boolean told = true;

    private Check() {
    }

    /** Runs the test of one sentence of the document; if an answer in it is wrong, the sentence is told first. */
    static void holds(String words, Runnable test) {
        sentence = words;
        told = false;
        try {
            test.run();
        } catch (RuntimeException thrown) {
            due("a call that threw " + thrown, 0, 1);
        }
        told = true;
    }

    static void due(String call, long want, long got) {
        if (got == want) {
            return;
        }
        if (!told) {
            System.out.println("BROKEN: " + sentence);
            told = true;
        }
        wrong++;
        System.out.println("  " + call + " answered " + got + ", due is " + want);
    }

    static void end() {
        System.out.println(wrong == 0 ? "all answers are as due" : wrong + " answers are not as due");
        if (wrong != 0) {
            System.exit(1);
        }
    }

    static boolean failed() {
        return wrong != 0;
    }

    /** Makes a call with each int of AROUND that is not in least..most; each answer must be the one given. */
    static void outside(String call, int least, int most, int want, IntUnaryOperator made) {
        for (int value : AROUND) {
            if (value < least || value > most) {
                due(call + " with " + value, want, made.applyAsInt(value));
            }
        }
        due(call + " with " + (least - 1), want, made.applyAsInt(least - 1));
        due(call + " with " + (most + 1), want, made.applyAsInt(most + 1));
    }

    /** Appends a program given as opcode, arg, opcode, arg, .. */
    static void emitAll(SeriesParallelRace x, int... program) {
        int length = 0;
        while (length < 48 && x.code(length, 0) != Ops.REFUSED) {
            length++;
        }
        for (int i = 0; i < program.length; i += 2) {
            due("emit(" + program[i] + ", " + program[i + 1] + ")", length, x.emit(program[i], program[i + 1]));
            length++;
        }
    }

    /** A machine with 16 addresses, 4 cells, 6 levels and 12 instances. */
    static SeriesParallelRace machine(int... program) {
        SeriesParallelRace x = new SeriesParallelRace(16, 4, 6, 12);
        emitAll(x, program);
        return x;
    }

    /** The same machine, started. */
    static SeriesParallelRace started(int... program) {
        SeriesParallelRace x = machine(program);
        due("start()", Ops.OK, x.start());
        return x;
    }

    /** Runs until the status is no longer RUNNING, or until nothing more can come. */
    static int runOut(SeriesParallelRace x) {
        for (int i = 0; i < 8 && x.status() == Ops.RUNNING; i++) {
            x.run(32);
        }
        return x.status();
    }

    /** Compares cell(0), cell(1), .. with the values. */
    static void cells(SeriesParallelRace x, int... values) {
        for (int c = 0; c < values.length; c++) {
            due("cell(" + c + ")", values[c], x.cell(c));
        }
    }

    /** Compares racing(0), racing(1), .. with the masks, and that there are no more steps. */
    static void masks(SeriesParallelRace x, int... masks) {
        due("steps()", masks.length, x.steps());
        for (int k = 0; k < masks.length; k++) {
            due("racing(" + k + ")", masks[k], x.racing(k));
        }
    }

    /** Compares concurrent(0), concurrent(1), .. with the answers, and that there are no more steps. */
    static void concurrents(SeriesParallelRace x, int... answers) {
        due("steps()", answers.length, x.steps());
        for (int k = 0; k < answers.length; k++) {
            due("concurrent(" + k + ") after " + answers.length + " steps", answers[k], x.concurrent(k));
        }
    }

    /** Compares what the five questions about a level answer. */
    static void level(SeriesParallelRace x, int level, int... answers) {
        for (int what = 0; what < answers.length; what++) {
            due("frame(" + level + ", " + what + ")", answers[what], x.frame(level, what));
        }
    }

    /** Compares what the four questions about a step answer. */
    static void stepIs(SeriesParallelRace x, int k, int... answers) {
        for (int what = 0; what < answers.length; what++) {
            due("step(" + k + ", " + what + ")", answers[what], x.step(k, what));
        }
    }
}
