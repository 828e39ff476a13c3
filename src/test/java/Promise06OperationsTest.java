/** Promise 6 with the document's 'Terms': what each operation does, and when trying it makes a fault. */
public final class Promise06OperationsTest {
    private static final Check check = new Check();
    private static final int[] CELLS = {100, 101, 102, 103, 104, 105, 106, 107};

    /** Pushes the values, the last one to the top, then runs one more instruction. */
    private static FpuStackTrans after(int op, int a, int... pushed) {
        FpuStackTrans x = new FpuStackTrans();
        for (int cell = 0; cell < 8; cell++) {
            x.poke(cell, CELLS[cell]);
        }
        for (int value : pushed) {
            x.emit(FpuStackTrans.LIT, value);
        }
        x.emit(op, a);
        x.run(pushed.length + 1);
        return x;
    }

    private static void executed(String what, FpuStackTrans x, int count, int... stack) {
        check.state(what, x, FpuStackTrans.RUNNING, count, count, stack);
    }

    private static void pushes() {
        executed("LIT 9", after(FpuStackTrans.LIT, 9), 1, 9);
        executed("LIT -9 on 1", after(FpuStackTrans.LIT, -9, 1), 2, -9, 1);
        executed("DUP 0", after(FpuStackTrans.DUP, 0, 5, 6), 3, 6, 6, 5);
        executed("DUP 1", after(FpuStackTrans.DUP, 1, 5, 6), 3, 5, 6, 5);
        executed("DUP 6 at 7", after(FpuStackTrans.DUP, 6, 1, 2, 3, 4, 5, 6, 7), 8, 1, 7, 6, 5, 4, 3, 2, 1);
        for (int cell = 0; cell < 8; cell++) {
            FpuStackTrans x = after(FpuStackTrans.LOAD, cell, 1);
            executed("LOAD " + cell, x, 2, CELLS[cell], 1);
            check.memory("LOAD " + cell, x, CELLS);
        }
    }

    private static void stores() {
        for (int cell = 0; cell < 8; cell++) {
            FpuStackTrans x = after(FpuStackTrans.STORE, cell, 1, -2);
            int[] cells = CELLS.clone();
            cells[cell] = -2;
            executed("STORE " + cell, x, 3, 1);
            check.memory("STORE " + cell, x, cells);
        }
        executed("STORE 7 of the only value", after(FpuStackTrans.STORE, 7, 1), 2);
    }

    private static void exchanges() {
        executed("XCH 0", after(FpuStackTrans.XCH, 0, 1, 2), 3, 2, 1);
        executed("XCH 0 of the only value", after(FpuStackTrans.XCH, 0, 1), 2, 1);
        executed("XCH 1", after(FpuStackTrans.XCH, 1, 1, 2, 3), 4, 2, 3, 1);
        executed("XCH 2", after(FpuStackTrans.XCH, 2, 1, 2, 3), 4, 1, 2, 3);
        executed("XCH 7", after(FpuStackTrans.XCH, 7, 1, 2, 3, 4, 5, 6, 7, 8), 9, 1, 7, 6, 5, 4, 3, 2, 8);
    }

    private static void arithmetic() {
        executed("ADD 0", after(FpuStackTrans.ADD, 0, 1, 20), 3, 40, 1);
        executed("ADD 1", after(FpuStackTrans.ADD, 1, 1, 20), 3, 21, 1);
        executed("SUB 0", after(FpuStackTrans.SUB, 0, 1, 20), 3, 0, 1);
        executed("SUB 1", after(FpuStackTrans.SUB, 1, 1, 20), 3, 19, 1);
        executed("SUB 2", after(FpuStackTrans.SUB, 2, 50, 1, 20), 4, -30, 1, 50);
        executed("MUL 0", after(FpuStackTrans.MUL, 0, 3, 20), 3, 400, 3);
        executed("MUL 1", after(FpuStackTrans.MUL, 1, 3, 20), 3, 60, 3);
        executed("MUL 7", after(FpuStackTrans.MUL, 7, 9, 2, 3, 4, 5, 6, 7, 8), 9, 72, 7, 6, 5, 4, 3, 2, 9);
        executed("ADDP 1", after(FpuStackTrans.ADDP, 1, 3, 20), 3, 23);
        executed("ADDP 2", after(FpuStackTrans.ADDP, 2, 3, 4, 20), 4, 4, 23);
        executed("SUBP 1", after(FpuStackTrans.SUBP, 1, 3, 20), 3, -17);
        executed("SUBP 2", after(FpuStackTrans.SUBP, 2, 3, 4, 20), 4, 4, -17);
        executed("SUBP 7", after(FpuStackTrans.SUBP, 7, 9, 2, 3, 4, 5, 6, 7, 8), 9, 7, 6, 5, 4, 3, 2, 1);
    }

    private static void arithmeticWraps() {
        int max = Integer.MAX_VALUE;
        int min = Integer.MIN_VALUE;
        executed("ADD wraps", after(FpuStackTrans.ADD, 1, 1, max), 3, min, 1);
        executed("SUB wraps", after(FpuStackTrans.SUB, 1, 1, min), 3, max, 1);
        executed("MUL wraps", after(FpuStackTrans.MUL, 1, 65537, 65537), 3, 131073, 65537);
        executed("MUL of the least wraps", after(FpuStackTrans.MUL, 1, -1, min), 3, min, -1);
        executed("ADDP wraps", after(FpuStackTrans.ADDP, 1, min, -1), 3, max);
        executed("SUBP wraps", after(FpuStackTrans.SUBP, 1, max, -1), 3, min);
    }

    private static void jump(int op, int value, boolean taken) {
        for (int a = 0; a < 32; a++) {
            FpuStackTrans x = after(op, a, 7, value);
            check.state("operation " + op + " to " + a + " of " + value, x, FpuStackTrans.RUNNING, taken ? a : 3, 3, 7);
        }
    }

    private static void jumps() {
        for (int value : Check.EXTREMES) {
            jump(FpuStackTrans.JZ, value, value == 0);
            jump(FpuStackTrans.JNEG, value, value < 0);
        }
        for (int a = 0; a < 32; a++) {
            check.state("JMP " + a, after(FpuStackTrans.JMP, a, 7, 8), FpuStackTrans.RUNNING, a, 3, 8, 7);
            check.state("JMP " + a + " on an empty stack", after(FpuStackTrans.JMP, a), FpuStackTrans.RUNNING, a, 1);
        }
    }

    private static void halts() {
        check.state("HALT", after(FpuStackTrans.HALT, 5, 1), FpuStackTrans.HALTED, 1, 2, 1);
        check.state("HALT on an empty stack", after(FpuStackTrans.HALT, -1), FpuStackTrans.HALTED, 0, 1);
        check.state("HALT on a full stack", after(FpuStackTrans.HALT, 99, 1, 2, 3, 4, 5, 6, 7, 8),
            FpuStackTrans.HALTED, 8, 9, 8, 7, 6, 5, 4, 3, 2, 1);
    }

    private static int leastDepth(int op, int a) {
        switch (op) {
            case FpuStackTrans.STORE:
            case FpuStackTrans.JZ:
            case FpuStackTrans.JNEG:
                return 1;
            case FpuStackTrans.LIT:
            case FpuStackTrans.LOAD:
            case FpuStackTrans.JMP:
            case FpuStackTrans.HALT:
                return 0;
            default:
                return a + 1;
        }
    }

    private static void faultOrNot(int op, int a, int depth) {
        int[] pushed = new int[depth];
        int[] stack = new int[depth];
        for (int i = 0; i < depth; i++) {
            pushed[i] = 10 + i;
            stack[depth - 1 - i] = 10 + i;
        }
        FpuStackTrans x = after(op, a, pushed);
        boolean fault = depth < leastDepth(op, a) || op <= FpuStackTrans.LOAD && depth == 8;
        String when = "operation " + op + " with " + a + " at depth " + depth;
        if (fault) {
            check.state(when, x, FpuStackTrans.FAULT, depth, depth, stack);
            check.memory(when, x, CELLS);
        } else {
            check.due(when + ": executed()", x.executed(), depth + 1);
            check.due(when + ": fault", x.run(0) == FpuStackTrans.FAULT, false);
        }
    }

    private static void faultsAtEveryDepth() {
        for (int op = FpuStackTrans.LIT; op <= FpuStackTrans.HALT; op++) {
            boolean pair = op == FpuStackTrans.ADDP || op == FpuStackTrans.SUBP;
            for (int a = pair ? 1 : 0; a < 8; a++) {
                for (int depth = 0; depth <= 8; depth++) {
                    faultOrNot(op, a, depth);
                }
            }
        }
    }

    public static void main(String[] args) {
        pushes();
        stores();
        exchanges();
        arithmetic();
        arithmeticWraps();
        jumps();
        halts();
        faultsAtEveryDepth();
        check.end();
    }
}
