/** What the tests share: comparing answers, looking at a whole state, and ending with the exit code that is due. */
final class Check {
    static final int[] EXTREMES = {Integer.MIN_VALUE, Integer.MIN_VALUE + 1, -33, -1, 0, 1, 32, 33, Integer.MAX_VALUE};

    // The numbers that emit and patch take, by operation.
    private static final int MIN = Integer.MIN_VALUE;
    private static final int MAX = Integer.MAX_VALUE;
    private static final int[] LEAST = {MIN, 0, 0, 0, 0, 0, 0, 0, 1, 1, 0, 0, 0, MIN};
    private static final int[] GREATEST = {MAX, 7, 7, 7, 7, 7, 7, 7, 7, 7, 31, 31, 31, MAX};

    private int wrong = 0;

    /** A call of emit or patch with an operation and a number, and whether it is to be taken. */
    interface Attempt {
        void make(int op, int a, boolean taken);
    }

    /** Every operation with numbers inside, at the edges and outside, then what is no operation at all. */
    static void attemptAll(Attempt attempt) {
        for (int op = FpuStackTrans.LIT; op <= FpuStackTrans.HALT; op++) {
            for (int a = -40; a <= 40; a++) {
                attempt.make(op, a, a >= LEAST[op] && a <= GREATEST[op]);
            }
            for (int a : EXTREMES) {
                attempt.make(op, a, a >= LEAST[op] && a <= GREATEST[op]);
            }
        }
        int[] noOperations = {-1, -2, 14, 15, 16, 32, 256, Integer.MIN_VALUE, Integer.MAX_VALUE};
        for (int op : noOperations) {
            attempt.make(op, 0, false);
            attempt.make(op, 1, false);
        }
    }

    void due(String call, long got, long want) {
        if (got != want) {
            wrong++;
            System.out.println(call + " answered " + got + ", due is " + want);
        }
    }

    void due(String call, boolean got, boolean want) {
        due(call, got ? 1L : 0L, want ? 1L : 0L);
    }

    /** Everything but program and memory; the stack is given from the top down. run(0) tells the status. */
    void state(String when, FpuStackTrans x, int status, int place, int executed, int... stack) {
        due(when + ": run(0)", x.run(0), status);
        due(when + ": place()", x.place(), place);
        due(when + ": executed()", x.executed(), executed);
        due(when + ": depth()", x.depth(), stack.length);
        for (int i = 0; i < 8; i++) {
            due(when + ": st(" + i + ")", x.st(i), i < stack.length ? stack[i] : 0);
        }
    }

    void memory(String when, FpuStackTrans x, int... cells) {
        for (int i = 0; i < 8; i++) {
            due(when + ": memory(" + i + ")", x.memory(i), i < cells.length ? cells[i] : 0);
        }
    }

    /** A new object with a program, given as operation, number, operation, number and so on. */
    static FpuStackTrans program(int... code) {
        FpuStackTrans x = new FpuStackTrans();
        for (int k = 0; k < code.length; k += 2) {
            x.emit(code[k], code[k + 1]);
        }
        return x;
    }

    void end() {
        System.out.println(wrong == 0 ? "all answers are as due" : wrong + " answers are not as due");
        if (wrong != 0) {
            System.exit(1);
        }
    }
}
