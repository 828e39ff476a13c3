/** Promise 3: patch replaces one instruction; the machine's state stays. */
public final class Promise03PatchTest {
    private static final Check check = new Check();

    private static FpuStackTrans threeNumbers() {
        return Check.program(FpuStackTrans.LIT, 1, FpuStackTrans.LIT, 2, FpuStackTrans.LIT, 3);
    }

    private static void onlyThatInstructionChanges() {
        for (int i = 0; i < 3; i++) {
            FpuStackTrans x = threeNumbers();
            check.due("patch(" + i + ", LIT, 9)", x.patch(i, FpuStackTrans.LIT, 9), 3);
            x.run(3);
            check.state("patched " + i, x, FpuStackTrans.RUNNING, 3, 3,
                i == 2 ? 9 : 3, i == 1 ? 9 : 2, i == 0 ? 9 : 1);
            check.due("emit after patch", x.emit(FpuStackTrans.HALT, 0), 4);
        }
    }

    private static void noSuchInstruction() {
        int[] places = {-1, 3, 4, 31, 32, Integer.MIN_VALUE, Integer.MAX_VALUE};
        for (int i : places) {
            FpuStackTrans x = threeNumbers();
            check.due("patch(" + i + ", HALT, 0)", x.patch(i, FpuStackTrans.HALT, 0), FpuStackTrans.BAD);
            check.due("run after a refused patch", x.run(4), FpuStackTrans.FAULT);
            check.state("after patch(" + i + ")", x, FpuStackTrans.FAULT, 3, 3, 3, 2, 1);
        }
    }

    private static void patchOnce(int op, int a, boolean taken) {
        FpuStackTrans x = threeNumbers();
        String call = "patch(0, " + op + ", " + a + ")";
        check.due(call, x.patch(0, op, a), taken ? 3 : FpuStackTrans.BAD);
        check.due(call + ", then emit(HALT, 0)", x.emit(FpuStackTrans.HALT, 0), 4);
        if (!taken) {
            x.run(3);
            check.state("after a refused " + call, x, FpuStackTrans.RUNNING, 3, 3, 3, 2, 1);
        }
    }

    private static void aFullProgramCanBePatched() {
        FpuStackTrans x = new FpuStackTrans();
        for (int i = 0; i < 32; i++) {
            x.emit(FpuStackTrans.JMP, 31);
        }
        check.due("patch(31, HALT, -5) when full", x.patch(31, FpuStackTrans.HALT, -5), 32);
        check.due("patch(32, HALT, 0) when full", x.patch(32, FpuStackTrans.HALT, 0), FpuStackTrans.BAD);
        check.due("patch(0, 14, 0) when full", x.patch(0, 14, 0), FpuStackTrans.BAD);
        check.due("run of the patched program", x.run(200), FpuStackTrans.HALTED);
        check.state("patched when full", x, FpuStackTrans.HALTED, 31, 2);
    }

    private static void stateStays() {
        FpuStackTrans x = threeNumbers();
        x.poke(7, 8);
        x.run(2);
        x.patch(0, FpuStackTrans.HALT, 0);
        x.patch(2, FpuStackTrans.ADDP, 1);
        check.state("patch while running", x, FpuStackTrans.RUNNING, 2, 2, 2, 1);
        x.run(2);
        x.patch(2, FpuStackTrans.JMP, 0);
        check.state("patch after a fault", x, FpuStackTrans.FAULT, 3, 3, 3);
        check.due("run after a fault and patch", x.run(1), FpuStackTrans.FAULT);
        x.start();
        x.run(1);
        x.patch(0, FpuStackTrans.LIT, 4);
        check.state("patch after a halt", x, FpuStackTrans.HALTED, 0, 1);
        check.due("run after a halt and patch", x.run(1), FpuStackTrans.HALTED);
        check.memory("patched", x, 0, 0, 0, 0, 0, 0, 0, 8);
    }

    /** A patch from and to each operation leaves nothing of the old one behind. */
    private static void eachOperationAfterEachOther() {
        for (int before = FpuStackTrans.LIT; before <= FpuStackTrans.HALT; before++) {
            for (int op = FpuStackTrans.LIT; op <= FpuStackTrans.HALT; op++) {
                FpuStackTrans fresh = threeNumbers();
                FpuStackTrans patched = threeNumbers();
                fresh.emit(op, 2);
                patched.emit(before, 1);
                patched.patch(3, op, 2);
                String when = "operation " + op + " in place of " + before;
                check.due(when + ": run(4)", patched.run(4), fresh.run(4));
                check.state(when, patched, fresh.run(0), fresh.place(), fresh.executed(), stackOf(fresh));
                check.due(when + ": memory(2)", patched.memory(2), fresh.memory(2));
            }
        }
    }

    private static int[] stackOf(FpuStackTrans x) {
        int[] stack = new int[x.depth()];
        for (int i = 0; i < stack.length; i++) {
            stack[i] = x.st(i);
        }
        return stack;
    }

    public static void main(String[] args) {
        onlyThatInstructionChanges();
        noSuchInstruction();
        Check.attemptAll(Promise03PatchTest::patchOnce);
        aFullProgramCanBePatched();
        stateStays();
        eachOperationAfterEachOther();
        check.end();
    }
}
