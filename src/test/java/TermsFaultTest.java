/** 'Terms': each case in which the instruction at pc is not executed, beside the nearest case in which it is. */
public final class TermsFaultTest {
    private static final Check check = new Check();
    private static final int[] CELLS = {100, 101, 102, 103, 104, 105, 106, 107};

    /** Stacks of that depth with the values 1, 2, 3 and so on, the last one on top: fresh, and cut down from 8. */
    private static FpuStackTrans[] stacks(int depth) {
        FpuStackTrans fresh = Check.pushed(depth);
        FpuStackTrans cut = Check.pushed(8);
        for (int k = 8; k > depth; k--) {
            cut.emit(FpuStackTrans.STORE, 0);
        }
        cut.run(8 - depth);
        FpuStackTrans[] both = {fresh, cut};
        for (FpuStackTrans x : both) {
            for (int cell = 0; cell < 8; cell++) {
                x.poke(cell, CELLS[cell]);
            }
        }
        return both;
    }

    /** "the status becomes FAULT and nothing else changes" */
    private static void faults(int op, int a, int depth) {
        String when = "operation " + op + " with " + a + " at depth " + depth;
        for (FpuStackTrans x : stacks(depth)) {
            int place = x.place();
            x.emit(op, a);
            check.due(when + ": run(1)", x.run(1), FpuStackTrans.FAULT);
            check.state(when, x, FpuStackTrans.FAULT, place, place, Check.pushedStack(depth));
            check.memory(when, x, CELLS);
        }
    }

    /** "Else the instruction is executed, and the count of executed instructions grows by 1" */
    private static void executes(int op, int a, int depth) {
        String when = "operation " + op + " with " + a + " at depth " + depth;
        FpuStackTrans[] both = stacks(depth);
        for (FpuStackTrans x : both) {
            int count = x.executed();
            x.emit(op, a);
            int status = op == FpuStackTrans.HALT ? FpuStackTrans.HALTED : FpuStackTrans.RUNNING;
            check.due(when + ": run(1)", x.run(1), status);
            check.due(when + ": executed()", x.executed(), count + 1);
        }
        check.stack(when + ", cut down from 8", both[1], Check.stackOf(both[0]));
        check.memory(when + ", cut down from 8", both[1], Check.memoryOf(both[0]));
    }

    /** "if pc is no instruction's number": there is none at all */
    private static void noProgram() {
        FpuStackTrans x = new FpuStackTrans();
        check.due("run(1) of no program", x.run(1), FpuStackTrans.FAULT);
        check.state("no program", x, FpuStackTrans.FAULT, 0, 0);
        FpuStackTrans y = Check.program(FpuStackTrans.LIT, 4);
        check.due("run(1) of one instruction", y.run(1), FpuStackTrans.RUNNING);
        check.state("one instruction", y, FpuStackTrans.RUNNING, 1, 1, 4);
    }

    /** "if pc is no instruction's number": the last one is executed, the place behind it makes a fault */
    private static void theEndOfTheProgram() {
        for (int length = 1; length <= 32; length++) {
            FpuStackTrans x = Check.jumps(length - 1);
            x.emit(FpuStackTrans.LIT, length);
            String when = "a program of " + length;
            check.due(when + " to its end", x.run(length), FpuStackTrans.RUNNING);
            check.state(when + " at its end", x, FpuStackTrans.RUNNING, length, length, length);
            check.due(when + " past its end", x.run(1), FpuStackTrans.FAULT);
            check.state(when + " past its end", x, FpuStackTrans.FAULT, length, length, length);
        }
    }

    /** Jumps from instruction 1 of a program of five: to the last one, which halts, or past it. */
    private static void jumpTo(int op, int value, int a, boolean there) {
        FpuStackTrans x = Check.program(FpuStackTrans.LIT, value, op, a, FpuStackTrans.HALT, 0,
            FpuStackTrans.HALT, 0, FpuStackTrans.HALT, 0);
        String when = "operation " + op + " to " + a + " of 5 instructions";
        check.due(when + ": run(2)", x.run(2), FpuStackTrans.RUNNING);
        check.due(when + ": place()", x.place(), a);
        check.due(when + ": executed()", x.executed(), 2);
        check.due(when + ": run(1)", x.run(1), there ? FpuStackTrans.HALTED : FpuStackTrans.FAULT);
        check.due(when + ": place() after run(1)", x.place(), a);
        check.due(when + ": executed() after run(1)", x.executed(), there ? 3 : 2);
    }

    /** "if pc is no instruction's number": after a jump, which itself is executed */
    private static void jumpsPastTheProgram() {
        int[] places = {4, 5, 6, 31};
        for (int a : places) {
            jumpTo(FpuStackTrans.JMP, 1, a, a <= 4);
            jumpTo(FpuStackTrans.JZ, 0, a, a <= 4);
            jumpTo(FpuStackTrans.JNEG, -1, a, a <= 4);
        }
    }

    /** The place past the end is tried only by run: an instruction may still be put there before. */
    private static void aPlaceThatGetsItsInstruction() {
        FpuStackTrans x = Check.program(FpuStackTrans.JMP, 2);
        x.run(1);
        x.emit(FpuStackTrans.HALT, 0);
        check.state("one instruction too few", x, FpuStackTrans.RUNNING, 2, 1);
        x.emit(FpuStackTrans.LIT, 6);
        check.due("run(1) of the new instruction", x.run(1), FpuStackTrans.RUNNING);
        check.state("the new instruction", x, FpuStackTrans.RUNNING, 3, 2, 6);
    }

    /** "reads [..] a value that is not on the stack": st(a), for the operations that name it */
    private static void readsStOfA() {
        int[] operations = {FpuStackTrans.ADD, FpuStackTrans.SUB, FpuStackTrans.MUL};
        for (int op : operations) {
            for (int a = 0; a <= 7; a++) {
                readsDownTo(op, a);
            }
        }
    }

    /** "reads [..] a value that is not on the stack": st(a) and st(0), where a is at least 1 */
    private static void readsTwoValues() {
        for (int a = 1; a <= 7; a++) {
            readsDownTo(FpuStackTrans.ADDP, a);
            readsDownTo(FpuStackTrans.SUBP, a);
        }
    }

    private static void readsDownTo(int op, int a) {
        for (int depth = 0; depth <= a; depth++) {
            faults(op, a, depth);
        }
        for (int depth = a + 1; depth <= 8; depth++) {
            executes(op, a, depth);
        }
    }

    /** "reads [..] a value that is not on the stack": st(a) of DUP, which at depth 8 can't be pushed either */
    private static void readsForDup() {
        for (int a = 0; a <= 7; a++) {
            for (int depth = 0; depth <= a; depth++) {
                faults(FpuStackTrans.DUP, a, depth);
            }
            for (int depth = a + 1; depth <= 7; depth++) {
                executes(FpuStackTrans.DUP, a, depth);
            }
        }
    }

    /** "exchanges a value that is not on the stack": st(0) with itself too */
    private static void exchanges() {
        faults(FpuStackTrans.XCH, 0, 0);
        executes(FpuStackTrans.XCH, 0, 1);
        for (int a = 1; a <= 7; a++) {
            readsDownTo(FpuStackTrans.XCH, a);
        }
    }

    /** "pops from an empty stack" */
    private static void popsFromAnEmptyStack() {
        for (int a = 0; a <= 7; a++) {
            faults(FpuStackTrans.STORE, a, 0);
            executes(FpuStackTrans.STORE, a, 1);
            executes(FpuStackTrans.STORE, a, 8);
        }
        for (int a = 0; a <= 31; a++) {
            faults(FpuStackTrans.JZ, a, 0);
            executes(FpuStackTrans.JZ, a, 1);
            executes(FpuStackTrans.JZ, a, 8);
            faults(FpuStackTrans.JNEG, a, 0);
            executes(FpuStackTrans.JNEG, a, 1);
            executes(FpuStackTrans.JNEG, a, 8);
        }
    }

    /** "pushes when the depth is 8" */
    private static void pushesWhenTheDepthIsEight() {
        int[] operations = {FpuStackTrans.LIT, FpuStackTrans.LOAD};
        for (int op : operations) {
            for (int a = 0; a <= 7; a++) {
                executes(op, a, 0);
                executes(op, a, 7);
                faults(op, a, 8);
            }
        }
        for (int a = 0; a <= 6; a++) {
            executes(FpuStackTrans.DUP, a, 7);
            faults(FpuStackTrans.DUP, a, 8);
        }
        faults(FpuStackTrans.DUP, 7, 8);
    }

    /** What neither reads nor pops nor pushes needs nothing of the stack. */
    private static void jumpsAndHaltsAtEveryDepth() {
        for (int depth = 0; depth <= 8; depth++) {
            executes(FpuStackTrans.JMP, 0, depth);
            executes(FpuStackTrans.JMP, 31, depth);
            executes(FpuStackTrans.HALT, 7, depth);
        }
    }

    /** "nothing else changes": the program doesn't either, seen when it is started again beside one without a fault. */
    private static void theProgramStays() {
        int[] code = {FpuStackTrans.LIT, 3, FpuStackTrans.DUP, 0, FpuStackTrans.STORE, 1, FpuStackTrans.SUB, 1};
        FpuStackTrans tried = Check.program(code);
        FpuStackTrans twin = Check.program(code);
        twin.poke(1, 3);
        check.due("run(200) into the fault", tried.run(200), FpuStackTrans.FAULT);
        check.sameFromTheStart("after a fault", tried, twin, 5);
        check.due("emit after a fault", tried.emit(FpuStackTrans.HALT, 0), 5);
    }

    public static void main(String[] args) {
        noProgram();
        theEndOfTheProgram();
        jumpsPastTheProgram();
        aPlaceThatGetsItsInstruction();
        readsStOfA();
        readsTwoValues();
        readsForDup();
        exchanges();
        popsFromAnEmptyStack();
        pushesWhenTheDepthIsEight();
        jumpsAndHaltsAtEveryDepth();
        theProgramStays();
        check.end();
    }
}
