/** Promise 11: executed counts executed instructions, HALT too and faults not, since the last start. */
public final class Promise11ExecutedTest {
    private static final Check check = new Check();

    private static void eachOperationCountsOne() {
        for (int op = FpuStackTrans.LIT; op <= FpuStackTrans.HALT; op++) {
            FpuStackTrans x = Check.program(FpuStackTrans.LIT, 0, FpuStackTrans.LIT, 0, op, 1);
            x.run(2);
            check.due("executed() before operation " + op, x.executed(), 2);
            x.run(1);
            check.due("executed() after operation " + op, x.executed(), 3);
        }
    }

    /** A jump counts one whether it is taken or not. */
    private static void aJumpCountsOne() {
        int[] tops = {-1, 0, 1};
        for (int top : tops) {
            for (int op = FpuStackTrans.JZ; op <= FpuStackTrans.JMP; op++) {
                FpuStackTrans x = Check.program(FpuStackTrans.LIT, top, op, 31);
                x.run(2);
                check.due("executed() after jump " + op + " of " + top, x.executed(), 2);
            }
        }
    }

    private static void aFaultDoesNotCount() {
        FpuStackTrans x = Check.program(FpuStackTrans.LIT, 0, FpuStackTrans.XCH, 1);
        x.run(200);
        check.due("executed() after a fault", x.executed(), 1);
        x.run(200);
        check.due("executed() after a run in FAULT", x.executed(), 1);
    }

    /** "also for HALT": once, as no later run tries it again */
    private static void aHaltCountsOnce() {
        FpuStackTrans x = Check.program(FpuStackTrans.HALT, 0);
        x.run(200);
        check.due("executed() after a halt", x.executed(), 1);
        x.run(200);
        check.due("executed() after a run in HALTED", x.executed(), 1);
    }

    private static void otherCallsDoNotCount() {
        FpuStackTrans x = Check.pushed(3);
        x.emit(FpuStackTrans.HALT, 0);
        x.emit(14, 0);
        x.patch(0, FpuStackTrans.LIT, 9);
        x.patch(9, FpuStackTrans.LIT, 9);
        x.poke(0, 1);
        x.poke(8, 1);
        x.run(0);
        x.run(-1);
        x.st(0);
        x.memory(0);
        check.due("executed() after other calls", x.executed(), 3);
    }

    /** "since the beginning or the last start()" */
    private static void itAddsUpOverRunsUntilStart() {
        FpuStackTrans x = Check.program(FpuStackTrans.JMP, 0);
        for (int runs = 1; runs <= 400; runs++) {
            x.run(200);
        }
        check.due("executed() after 400 runs", x.executed(), 80000);
        x.start();
        check.due("executed() after start", x.executed(), 0);
        x.run(3);
        check.due("executed() after start and run(3)", x.executed(), 3);
        x.start();
        x.start();
        x.run(1);
        check.due("executed() after two starts and run(1)", x.executed(), 1);
    }

    public static void main(String[] args) {
        eachOperationCountsOne();
        aJumpCountsOne();
        aFaultDoesNotCount();
        aHaltCountsOnce();
        otherCallsDoNotCount();
        itAddsUpOverRunsUntilStart();
        check.end();
    }
}
