/** What the tests share: comparing answers, looking at a whole state, and ending with the exit code that is due. */
final class Check {
    static final int MIN = Integer.MIN_VALUE;
    static final int MAX = Integer.MAX_VALUE;
    static final int[] EXTREMES = {MIN, MIN + 1, -33, -1, 0, 1, 32, 33, MAX};

    private int wrong = 0;

    void due(String call, long got, long want) {
        if (got != want) {
            wrong++;
            System.out.println(call + " answered " + got + ", due is " + want);
        }
    }

    void due(String call, boolean got, boolean want) {
        due(call, got ? 1L : 0L, want ? 1L : 0L);
    }

    /** Everything but program and memory; the stack is given from the top down. run(0) tells the status. */
    void state(String when, FpuStackTrans x, int status, int place, int executed, int... stack) {
        due(when + ": run(0)", x.run(0), status);
        due(when + ": place()", x.place(), place);
        due(when + ": executed()", x.executed(), executed);
        stack(when, x, stack);
    }

    void stack(String when, FpuStackTrans x, int... stack) {
        due(when + ": depth()", x.depth(), stack.length);
        for (int i = 0; i < 8; i++) {
            due(when + ": st(" + i + ")", x.st(i), i < stack.length ? stack[i] : 0);
        }
    }

    void memory(String when, FpuStackTrans x, int... cells) {
        for (int i = 0; i < 8; i++) {
            due(when + ": memory(" + i + ")", x.memory(i), i < cells.length ? cells[i] : 0);
        }
    }

    /** All that can be seen of the two objects, but for their programs. */
    void same(String when, FpuStackTrans x, FpuStackTrans twin) {
        state(when, x, twin.run(0), twin.place(), twin.executed(), stackOf(twin));
        memory(when, x, memoryOf(twin));
    }

    /** The programs too, as far as they are run: both objects are started again and looked at after each step. */
    void sameFromTheStart(String when, FpuStackTrans x, FpuStackTrans twin, int steps) {
        x.start();
        twin.start();
        for (int step = 0; step <= steps; step++) {
            same(when + ", started again, step " + step, x, twin);
            x.run(1);
            twin.run(1);
        }
    }

    static int[] stackOf(FpuStackTrans x) {
        int[] stack = new int[x.depth()];
        for (int i = 0; i < stack.length; i++) {
            stack[i] = x.st(i);
        }
        return stack;
    }

    static int[] memoryOf(FpuStackTrans x) {
        int[] cells = new int[8];
        for (int i = 0; i < cells.length; i++) {
            cells[i] = x.memory(i);
        }
        return cells;
    }

    /** A new object with a program, given as operation, number, operation, number and so on. */
    static FpuStackTrans program(int... code) {
        FpuStackTrans x = new FpuStackTrans();
        for (int k = 0; k < code.length; k += 2) {
            x.emit(code[k], code[k + 1]);
        }
        return x;
    }

    /** A new object with a program of that many instructions, each a jump to the next one. */
    static FpuStackTrans jumps(int length) {
        FpuStackTrans x = new FpuStackTrans();
        for (int i = 0; i < length; i++) {
            x.emit(FpuStackTrans.JMP, (i + 1) % 32);
        }
        return x;
    }

    /** A new object that has pushed 1, 2, 3 and so on up to the depth, and is at the end of its program. */
    static FpuStackTrans pushed(int depth) {
        FpuStackTrans x = new FpuStackTrans();
        for (int value = 1; value <= depth; value++) {
            x.emit(FpuStackTrans.LIT, value);
        }
        x.run(depth);
        return x;
    }

    /** The stack of pushed(depth), from the top down. */
    static int[] pushedStack(int depth) {
        int[] stack = new int[depth];
        for (int i = 0; i < depth; i++) {
            stack[i] = depth - i;
        }
        return stack;
    }

    void end() {
        System.out.println(wrong == 0 ? "all answers are as due" : wrong + " answers are not as due");
        if (wrong != 0) {
            System.exit(1);
        }
    }
}
