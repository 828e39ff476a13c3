/** Promise 6: run tries at most n instructions, n clamped into 0..200, while the status is RUNNING. */
public final class Promise06RunTest {
    private static final Check check = new Check();

    private static void clamping(int n, int tries) {
        FpuStackTrans x = Check.program(FpuStackTrans.JMP, 1, FpuStackTrans.JMP, 2, FpuStackTrans.JMP, 0);
        check.due("run(" + n + ")", x.run(n), FpuStackTrans.RUNNING);
        check.state("run(" + n + ")", x, FpuStackTrans.RUNNING, tries % 3, tries);
    }

    private static void everyClamping() {
        for (int n = 0; n <= 200; n++) {
            clamping(n, n);
        }
        int[] below = {-1, -2, -200, Integer.MIN_VALUE};
        for (int n : below) {
            clamping(n, 0);
        }
        int[] above = {201, 202, 256, 1000, Integer.MAX_VALUE};
        for (int n : above) {
            clamping(n, 200);
        }
    }

    private static void aHaltStopsTheRun() {
        FpuStackTrans x = Check.program(FpuStackTrans.LIT, 1, FpuStackTrans.HALT, 9, FpuStackTrans.LIT, 2);
        check.due("run(1) before the halt", x.run(1), FpuStackTrans.RUNNING);
        check.due("run(1) of the halt", x.run(1), FpuStackTrans.HALTED);
        check.state("halted", x, FpuStackTrans.HALTED, 1, 2, 1);
        check.due("run(200) after the halt", x.run(200), FpuStackTrans.HALTED);
        check.due("run(-1) after the halt", x.run(-1), FpuStackTrans.HALTED);
        check.state("halted, run again", x, FpuStackTrans.HALTED, 1, 2, 1);
    }

    private static void aFaultStopsTheRun() {
        FpuStackTrans x = Check.program(FpuStackTrans.LIT, 1, FpuStackTrans.STORE, 0, FpuStackTrans.STORE, 0);
        check.due("run(2) before the fault", x.run(2), FpuStackTrans.RUNNING);
        check.due("run(0) before the fault", x.run(0), FpuStackTrans.RUNNING);
        check.due("run(1) of the fault", x.run(1), FpuStackTrans.FAULT);
        check.state("fault", x, FpuStackTrans.FAULT, 2, 2);
        x.patch(2, FpuStackTrans.LIT, 1);
        check.due("run(200) after the fault", x.run(200), FpuStackTrans.FAULT);
        check.state("fault, run again", x, FpuStackTrans.FAULT, 2, 2);
        check.memory("fault", x, 1);
    }

    private static void theEndOfTheProgramFaultsOnlyWhenTried() {
        FpuStackTrans x = Check.program(FpuStackTrans.LIT, 1);
        check.due("run(1) to the end", x.run(1), FpuStackTrans.RUNNING);
        check.state("at the end", x, FpuStackTrans.RUNNING, 1, 1, 1);
        check.due("run(1) past the end", x.run(1), FpuStackTrans.FAULT);
        check.state("past the end", x, FpuStackTrans.FAULT, 1, 1, 1);
    }

    private static void theEndOfAFullProgram() {
        FpuStackTrans x = new FpuStackTrans();
        for (int i = 0; i < 32; i++) {
            x.emit(i % 2 == 0 ? FpuStackTrans.LIT : FpuStackTrans.STORE, i % 8);
        }
        check.due("run(32) of 32", x.run(32), FpuStackTrans.RUNNING);
        check.state("after 32 of 32", x, FpuStackTrans.RUNNING, 32, 32);
        check.due("run(1) at place 32", x.run(1), FpuStackTrans.FAULT);
        check.state("fault at place 32", x, FpuStackTrans.FAULT, 32, 32);
    }

    private static void aJumpPastTheProgram() {
        FpuStackTrans x = Check.program(FpuStackTrans.JMP, 31);
        check.due("run(1) of the jump", x.run(1), FpuStackTrans.RUNNING);
        check.state("jumped to 31", x, FpuStackTrans.RUNNING, 31, 1);
        check.due("run(1) at 31", x.run(1), FpuStackTrans.FAULT);
        check.state("fault at 31", x, FpuStackTrans.FAULT, 31, 1);
    }

    /** Counts 5 down to 0 and adds up what it meets. */
    private static FpuStackTrans countdown() {
        return Check.program(FpuStackTrans.LIT, 0, FpuStackTrans.LIT, 5,
            FpuStackTrans.DUP, 0, FpuStackTrans.ADDP, 2, FpuStackTrans.LIT, -1, FpuStackTrans.ADDP, 1,
            FpuStackTrans.DUP, 0, FpuStackTrans.JZ, 9, FpuStackTrans.JMP, 2, FpuStackTrans.HALT, 0);
    }

    private static void twoShortRunsAreOneLong() {
        for (int first = 0; first <= 40; first++) {
            FpuStackTrans x = countdown();
            check.due("run(" + first + ")", x.run(first), first < 37 ? FpuStackTrans.RUNNING : FpuStackTrans.HALTED);
            check.due("run(" + first + "), then run(200)", x.run(200), FpuStackTrans.HALTED);
            check.state("countdown cut at " + first, x, FpuStackTrans.HALTED, 9, 37, 0, 15);
        }
    }

    public static void main(String[] args) {
        everyClamping();
        aHaltStopsTheRun();
        aFaultStopsTheRun();
        theEndOfTheProgramFaultsOnlyWhenTried();
        theEndOfAFullProgram();
        aJumpPastTheProgram();
        twoShortRunsAreOneLong();
        check.end();
    }
}
