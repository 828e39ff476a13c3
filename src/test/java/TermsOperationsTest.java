import java.util.Arrays;

/** 'Terms': what each operation does to stack, memory, pc and status when it is executed. */
public final class TermsOperationsTest {
    private static final Check check = new Check();
    private static final int[] CELLS = {100, 101, 102, 103, 104, 105, 106, 107};

    /** Pushes the values, the last one to the top, then runs one more instruction. */
    private static FpuStackTrans after(int op, int a, int... pushed) {
        FpuStackTrans x = new FpuStackTrans();
        for (int cell = 0; cell < 8; cell++) {
            x.poke(cell, CELLS[cell]);
        }
        for (int value : pushed) {
            x.emit(FpuStackTrans.LIT, value);
        }
        x.emit(op, a);
        x.run(pushed.length + 1);
        return x;
    }

    private static void executed(String what, FpuStackTrans x, int count, int... stack) {
        check.state(what, x, FpuStackTrans.RUNNING, count, count, stack);
    }

    private static void pushes() {
        executed("LIT 9", after(FpuStackTrans.LIT, 9), 1, 9);
        executed("LIT -9 on 1", after(FpuStackTrans.LIT, -9, 1), 2, -9, 1);
        executed("DUP 0", after(FpuStackTrans.DUP, 0, 5, 6), 3, 6, 6, 5);
        executed("DUP 1", after(FpuStackTrans.DUP, 1, 5, 6), 3, 5, 6, 5);
        executed("DUP 6 at 7", after(FpuStackTrans.DUP, 6, 1, 2, 3, 4, 5, 6, 7), 8, 1, 7, 6, 5, 4, 3, 2, 1);
        for (int cell = 0; cell < 8; cell++) {
            FpuStackTrans x = after(FpuStackTrans.LOAD, cell, 1);
            executed("LOAD " + cell, x, 2, CELLS[cell], 1);
            check.memory("LOAD " + cell, x, CELLS);
        }
    }

    private static void stores() {
        for (int cell = 0; cell < 8; cell++) {
            FpuStackTrans x = after(FpuStackTrans.STORE, cell, 1, -2);
            int[] cells = CELLS.clone();
            cells[cell] = -2;
            executed("STORE " + cell, x, 3, 1);
            check.memory("STORE " + cell, x, cells);
        }
        executed("STORE 7 of the only value", after(FpuStackTrans.STORE, 7, 1), 2);
    }

    private static void exchanges() {
        executed("XCH 0", after(FpuStackTrans.XCH, 0, 1, 2), 3, 2, 1);
        executed("XCH 0 of the only value", after(FpuStackTrans.XCH, 0, 1), 2, 1);
        executed("XCH 1", after(FpuStackTrans.XCH, 1, 1, 2, 3), 4, 2, 3, 1);
        executed("XCH 2", after(FpuStackTrans.XCH, 2, 1, 2, 3), 4, 1, 2, 3);
        executed("XCH 7", after(FpuStackTrans.XCH, 7, 1, 2, 3, 4, 5, 6, 7, 8), 9, 1, 7, 6, 5, 4, 3, 2, 8);
    }

    private static void arithmetic() {
        executed("ADD 0", after(FpuStackTrans.ADD, 0, 1, 20), 3, 40, 1);
        executed("ADD 1", after(FpuStackTrans.ADD, 1, 1, 20), 3, 21, 1);
        executed("SUB 0", after(FpuStackTrans.SUB, 0, 1, 20), 3, 0, 1);
        executed("SUB 1", after(FpuStackTrans.SUB, 1, 1, 20), 3, 19, 1);
        executed("SUB 2", after(FpuStackTrans.SUB, 2, 50, 1, 20), 4, -30, 1, 50);
        executed("MUL 0", after(FpuStackTrans.MUL, 0, 3, 20), 3, 400, 3);
        executed("MUL 1", after(FpuStackTrans.MUL, 1, 3, 20), 3, 60, 3);
        executed("MUL 7", after(FpuStackTrans.MUL, 7, 9, 2, 3, 4, 5, 6, 7, 8), 9, 72, 7, 6, 5, 4, 3, 2, 9);
        executed("ADDP 1", after(FpuStackTrans.ADDP, 1, 3, 20), 3, 23);
        executed("ADDP 2", after(FpuStackTrans.ADDP, 2, 3, 4, 20), 4, 4, 23);
        executed("SUBP 1", after(FpuStackTrans.SUBP, 1, 3, 20), 3, -17);
        executed("SUBP 2", after(FpuStackTrans.SUBP, 2, 3, 4, 20), 4, 4, -17);
        executed("SUBP 7", after(FpuStackTrans.SUBP, 7, 9, 2, 3, 4, 5, 6, 7, 8), 9, 7, 6, 5, 4, 3, 2, 1);
    }

    /** What an operation that names st(a) makes of a stack; ADDP and SUBP pop the top after it. */
    private static int[] result(int op, int a, int... stack) {
        int top = stack[0];
        int[] after = stack.clone();
        switch (op) {
            case FpuStackTrans.XCH:
                after[0] = stack[a];
                after[a] = top;
                break;
            case FpuStackTrans.ADD:
                after[0] = top + stack[a];
                break;
            case FpuStackTrans.SUB:
                after[0] = top - stack[a];
                break;
            case FpuStackTrans.MUL:
                after[0] = top * stack[a];
                break;
            default:
                after[a] = op == FpuStackTrans.ADDP ? stack[a] + top : stack[a] - top;
                return Arrays.copyOfRange(after, 1, after.length);
        }
        return after;
    }

    /** From st(0), or st(1) for ADDP and SUBP, down to the lowest value, on stacks of one value up to 8. */
    private static void everyValueAtEveryDepth() {
        for (int op = FpuStackTrans.XCH; op <= FpuStackTrans.SUBP; op++) {
            for (int depth = 1; depth <= 8; depth++) {
                for (int a = op >= FpuStackTrans.ADDP ? 1 : 0; a < depth; a++) {
                    FpuStackTrans x = Check.pushed(depth);
                    x.emit(op, a);
                    x.run(1);
                    String when = "operation " + op + " with " + a + " at depth " + depth;
                    executed(when, x, depth + 1, result(op, a, Check.pushedStack(depth)));
                }
            }
        }
    }

    private static void jump(int op, int value, boolean taken) {
        for (int a = 0; a < 32; a++) {
            FpuStackTrans x = after(op, a, 7, value);
            check.state("operation " + op + " to " + a + " of " + value, x, FpuStackTrans.RUNNING, taken ? a : 3, 3, 7);
        }
    }

    /** "if it was 0", "if it was negative": the values beside 0, and the farthest ones. */
    private static void jumps() {
        for (int value : Check.EXTREMES) {
            jump(FpuStackTrans.JZ, value, value == 0);
            jump(FpuStackTrans.JNEG, value, value < 0);
        }
        for (int a = 0; a < 32; a++) {
            check.state("JMP " + a, after(FpuStackTrans.JMP, a, 7, 8), FpuStackTrans.RUNNING, a, 3, 8, 7);
            check.state("JMP " + a + " on an empty stack", after(FpuStackTrans.JMP, a), FpuStackTrans.RUNNING, a, 1);
        }
    }

    private static void jumpsThatPopTheOnlyValue() {
        check.state("JZ, taken", after(FpuStackTrans.JZ, 9, 0), FpuStackTrans.RUNNING, 9, 2);
        check.state("JZ, not taken", after(FpuStackTrans.JZ, 9, 1), FpuStackTrans.RUNNING, 2, 2);
        check.state("JNEG, taken", after(FpuStackTrans.JNEG, 9, -1), FpuStackTrans.RUNNING, 9, 2);
        check.state("JNEG, not taken", after(FpuStackTrans.JNEG, 9, 0), FpuStackTrans.RUNNING, 2, 2);
    }

    /** "the machine halts; pc stays" */
    private static void halts() {
        check.state("HALT", after(FpuStackTrans.HALT, 5, 1), FpuStackTrans.HALTED, 1, 2, 1);
        check.state("HALT on an empty stack", after(FpuStackTrans.HALT, -1), FpuStackTrans.HALTED, 0, 1);
        check.state("HALT on a full stack", after(FpuStackTrans.HALT, 99, 1, 2, 3, 4, 5, 6, 7, 8),
            FpuStackTrans.HALTED, 8, 9, 8, 7, 6, 5, 4, 3, 2, 1);
    }

    /** Fills the program so that the operation is instruction 31, with 1 at st(2), 2 at st(1) and the top above. */
    private static void atTheLastPlace(int op, int top, int placeAfter) {
        FpuStackTrans x = new FpuStackTrans();
        for (int i = 0; i < 28; i++) {
            x.emit(FpuStackTrans.JMP, i + 1);
        }
        x.emit(FpuStackTrans.LIT, 1);
        x.emit(FpuStackTrans.LIT, 2);
        x.emit(FpuStackTrans.LIT, top);
        x.emit(op, 1);
        x.run(31);
        check.due("place() before operation " + op, x.place(), 31);
        int status = op == FpuStackTrans.HALT ? FpuStackTrans.HALTED : FpuStackTrans.RUNNING;
        check.due("operation " + op + " as instruction 31", x.run(1), status);
        check.due("place() after operation " + op + " as instruction 31", x.place(), placeAfter);
        check.due("executed() after operation " + op + " as instruction 31", x.executed(), 32);
    }

    /** "After all but HALT and the jumps pc becomes pc + 1": 32 too, though no instruction can have that number. */
    private static void theLastPlace() {
        for (int op = FpuStackTrans.LIT; op <= FpuStackTrans.SUBP; op++) {
            atTheLastPlace(op, 3, 32);
        }
        atTheLastPlace(FpuStackTrans.JZ, 0, 1);
        atTheLastPlace(FpuStackTrans.JZ, 1, 32);
        atTheLastPlace(FpuStackTrans.JNEG, -1, 1);
        atTheLastPlace(FpuStackTrans.JNEG, 0, 32);
        atTheLastPlace(FpuStackTrans.JMP, 0, 1);
        atTheLastPlace(FpuStackTrans.HALT, 0, 31);
    }

    /** "pc becomes a": also if a is the jump's own number, the first or the last one. */
    private static void loops() {
        FpuStackTrans own = Check.program(FpuStackTrans.JMP, 1, FpuStackTrans.JMP, 1);
        own.run(200);
        check.state("a jump to itself", own, FpuStackTrans.RUNNING, 1, 200);
        FpuStackTrans around = Check.jumps(32);
        around.run(31);
        check.state("31 jumps", around, FpuStackTrans.RUNNING, 31, 31);
        around.run(1);
        check.state("a jump from 31 to 0", around, FpuStackTrans.RUNNING, 0, 32);
    }

    public static void main(String[] args) {
        pushes();
        stores();
        exchanges();
        arithmetic();
        everyValueAtEveryDepth();
        jumps();
        jumpsThatPopTheOnlyValue();
        halts();
        theLastPlace();
        loops();
        check.end();
    }
}
