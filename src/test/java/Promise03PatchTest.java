/** Promise 3: patch replaces one instruction; the machine's state stays. */
public final class Promise03PatchTest {
    private static final Check check = new Check();

    private static FpuStackTrans threeNumbers() {
        return Check.program(FpuStackTrans.LIT, 1, FpuStackTrans.LIT, 2, FpuStackTrans.LIT, 3);
    }

    /** "Puts another instruction in place of instruction i": the others stay. */
    private static void onlyThatInstructionChanges() {
        for (int i = 0; i < 3; i++) {
            FpuStackTrans x = threeNumbers();
            check.due("patch(" + i + ", LIT, 9)", x.patch(i, FpuStackTrans.LIT, 9), 3);
            x.run(3);
            check.state("patched " + i, x, FpuStackTrans.RUNNING, 3, 3,
                i == 2 ? 9 : 3, i == 1 ? 9 : 2, i == 0 ? 9 : 1);
            check.due("emit after patch", x.emit(FpuStackTrans.HALT, 0), 4);
        }
    }

    /** "i no instruction's number", in programs of every length; "Else answers the number of instructions" */
    private static void theNumbersThatThereAre() {
        for (int length = 0; length <= 32; length++) {
            FpuStackTrans x = Check.jumps(length);
            for (int i = -2; i <= 34; i++) {
                int want = i >= 0 && i < length ? length : FpuStackTrans.BAD;
                check.due("patch(" + i + ", HALT, 0) of " + length, x.patch(i, FpuStackTrans.HALT, 0), want);
            }
            int[] far = {Check.MIN, Check.MIN + 1, -256, 256, Check.MAX};
            for (int i : far) {
                check.due("patch(" + i + ", HALT, 0)", x.patch(i, FpuStackTrans.HALT, 0), FpuStackTrans.BAD);
            }
        }
    }

    /** A refused patch of a number that there isn't puts no instruction there. */
    private static void nothingIsPutWhereNoInstructionIs() {
        int[] places = {-1, 3, 4, 31, 32, Check.MIN, Check.MAX};
        for (int i : places) {
            FpuStackTrans x = threeNumbers();
            x.patch(i, FpuStackTrans.HALT, 0);
            check.due("run after a refused patch", x.run(4), FpuStackTrans.FAULT);
            check.state("after patch(" + i + ")", x, FpuStackTrans.FAULT, 3, 3, 3, 2, 1);
            check.due("emit after patch(" + i + ")", x.emit(FpuStackTrans.HALT, 0), 4);
        }
    }

    /** "op outside 0..13 or a refused for op as in emit" */
    private static void patchOnce(int op, int a, boolean taken) {
        FpuStackTrans x = threeNumbers();
        String call = "patch(2, " + op + ", " + a + ")";
        check.due(call, x.patch(2, op, a), taken ? 3 : FpuStackTrans.BAD);
        check.due(call + ", then emit(HALT, 0)", x.emit(FpuStackTrans.HALT, 0), 4);
        if (!taken) {
            x.run(3);
            check.state("after a refused " + call, x, FpuStackTrans.RUNNING, 3, 3, 3, 2, 1);
        }
    }

    /** All that emit calls FULL is taken or BAD here. */
    private static void aFullProgram() {
        FpuStackTrans x = Check.jumps(32);
        check.due("patch(31, HALT, -5) when full", x.patch(31, FpuStackTrans.HALT, -5), 32);
        check.due("patch(0, JMP, 31) when full", x.patch(0, FpuStackTrans.JMP, 31), 32);
        check.due("patch(32, HALT, 0) when full", x.patch(32, FpuStackTrans.HALT, 0), FpuStackTrans.BAD);
        check.due("patch(0, 14, 0) when full", x.patch(0, 14, 0), FpuStackTrans.BAD);
        check.due("patch(0, JMP, 32) when full", x.patch(0, FpuStackTrans.JMP, 32), FpuStackTrans.BAD);
        check.due("run of the patched program", x.run(200), FpuStackTrans.HALTED);
        check.state("patched when full", x, FpuStackTrans.HALTED, 31, 2);
    }

    /** "Stack, memory, pc, count and status stay." */
    private static void stateStays() {
        FpuStackTrans x = threeNumbers();
        x.poke(7, 8);
        x.run(2);
        x.patch(0, FpuStackTrans.HALT, 0);
        x.patch(2, FpuStackTrans.ADDP, 1);
        check.state("patch while running", x, FpuStackTrans.RUNNING, 2, 2, 2, 1);
        x.run(2);
        x.patch(2, FpuStackTrans.JMP, 0);
        check.state("patch after a fault", x, FpuStackTrans.FAULT, 3, 3, 3);
        check.due("run after a fault and patch", x.run(1), FpuStackTrans.FAULT);
        x.start();
        x.run(1);
        x.patch(0, FpuStackTrans.LIT, 4);
        check.state("patch after a halt", x, FpuStackTrans.HALTED, 0, 1);
        check.due("run after a halt and patch", x.run(1), FpuStackTrans.HALTED);
        check.memory("patched", x, 0, 0, 0, 0, 0, 0, 0, 8);
    }

    /** The instruction at pc is the patched one, at whatever depth the machine has come there. */
    private static void theInstructionAtPc() {
        for (int depth = 0; depth <= 8; depth++) {
            FpuStackTrans x = Check.pushed(depth);
            x.emit(FpuStackTrans.STORE, 0);
            x.patch(depth, FpuStackTrans.HALT, 0);
            check.due("the patched HALT at depth " + depth, x.run(1), FpuStackTrans.HALTED);
            check.state("the patched HALT", x, FpuStackTrans.HALTED, depth, depth + 1, Check.pushedStack(depth));
        }
    }

    /** A patch from and to each operation leaves nothing of the old one behind. */
    private static void eachOperationAfterEachOther() {
        for (int before = FpuStackTrans.LIT; before <= FpuStackTrans.HALT; before++) {
            for (int op = FpuStackTrans.LIT; op <= FpuStackTrans.HALT; op++) {
                FpuStackTrans fresh = threeNumbers();
                FpuStackTrans patched = threeNumbers();
                fresh.emit(op, 2);
                patched.emit(before, 1);
                patched.patch(3, op, 2);
                check.sameFromTheStart("operation " + op + " in place of " + before, patched, fresh, 4);
            }
        }
    }

    public static void main(String[] args) {
        onlyThatInstructionChanges();
        theNumbersThatThereAre();
        nothingIsPutWhereNoInstructionIs();
        Bounds.attemptAll(Promise03PatchTest::patchOnce);
        aFullProgram();
        stateStays();
        theInstructionAtPc();
        eachOperationAfterEachOther();
        check.end();
    }
}
