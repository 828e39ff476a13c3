/** Promise 11: executed counts executed instructions, HALT too and faults not, since the last start. */
public final class Promise11ExecutedTest {
    private static final Check check = new Check();

    private static void eachOperationCountsOne() {
        for (int op = FpuStackTrans.LIT; op <= FpuStackTrans.HALT; op++) {
            FpuStackTrans x = Check.program(FpuStackTrans.LIT, 0, FpuStackTrans.LIT, 0, op, 1);
            x.run(2);
            check.due("executed() before operation " + op, x.executed(), 2);
            x.run(1);
            check.due("executed() after operation " + op, x.executed(), 3);
        }
    }

    private static void aFaultDoesNotCount() {
        FpuStackTrans x = Check.program(FpuStackTrans.LIT, 0, FpuStackTrans.XCH, 1);
        x.run(200);
        check.due("executed() after a fault", x.executed(), 1);
        x.run(200);
        check.due("executed() after a run in FAULT", x.executed(), 1);
    }

    private static void aHaltCountsOnce() {
        FpuStackTrans x = Check.program(FpuStackTrans.HALT, 0);
        x.run(200);
        x.run(200);
        check.due("executed() after a halt", x.executed(), 1);
    }

    private static void itAddsUpOverRunsUntilStart() {
        FpuStackTrans x = Check.program(FpuStackTrans.JMP, 0);
        for (int runs = 1; runs <= 400; runs++) {
            x.run(200);
        }
        check.due("executed() after 400 runs", x.executed(), 80000);
        x.start();
        check.due("executed() after start", x.executed(), 0);
        x.run(3);
        check.due("executed() after start and run(3)", x.executed(), 3);
    }

    public static void main(String[] args) {
        eachOperationCountsOne();
        aFaultDoesNotCount();
        aHaltCountsOnce();
        itAddsUpOverRunsUntilStart();
        check.end();
    }
}
