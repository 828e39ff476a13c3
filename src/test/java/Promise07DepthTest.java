/** Promise 7: depth is the number of values on the stack. */
public final class Promise07DepthTest {
    private static final Check check = new Check();

    private static void upToEightAndDownAgain() {
        FpuStackTrans x = new FpuStackTrans();
        for (int i = 0; i < 8; i++) {
            x.emit(FpuStackTrans.LIT, 0);
        }
        for (int i = 0; i < 8; i++) {
            x.emit(FpuStackTrans.STORE, i);
        }
        check.due("depth() before the run", x.depth(), 0);
        for (int step = 1; step <= 16; step++) {
            x.run(1);
            check.due("depth() after step " + step, x.depth(), step <= 8 ? step : 16 - step);
        }
    }

    private static void changeOf(int op, int change) {
        FpuStackTrans x = Check.program(FpuStackTrans.LIT, 1, FpuStackTrans.LIT, 1, FpuStackTrans.LIT, 1, op, 1);
        x.run(4);
        check.due("depth() after operation " + op, x.depth(), 3 + change);
    }

    private static void eachOperation() {
        int[] changes = {1, 1, 1, -1, 0, 0, 0, 0, -1, -1, -1, -1, 0, 0};
        for (int op = 0; op < changes.length; op++) {
            changeOf(op, changes[op]);
        }
    }

    /** A push beyond 8 leaves it at 8, however often it is tried. */
    private static void aPushTooMany() {
        FpuStackTrans x = Check.program(FpuStackTrans.LIT, 1, FpuStackTrans.JMP, 0);
        x.run(15);
        check.due("depth() after 8 pushes", x.depth(), 8);
        x.run(200);
        check.due("depth() after a push too many", x.depth(), 8);
        x.run(200);
        check.due("depth() after a run in FAULT", x.depth(), 8);
    }

    /** A pop beyond 0 leaves it at 0. */
    private static void aPopTooMany() {
        FpuStackTrans x = Check.program(FpuStackTrans.LIT, 1, FpuStackTrans.STORE, 0, FpuStackTrans.STORE, 0);
        x.run(2);
        check.due("depth() after the last pop", x.depth(), 0);
        x.run(1);
        check.due("depth() after a pop too many", x.depth(), 0);
    }

    private static void startMakesItZero() {
        for (int depth = 0; depth <= 8; depth++) {
            FpuStackTrans x = Check.pushed(depth);
            check.due("depth() before start", x.depth(), depth);
            x.start();
            check.due("depth() after start at " + depth, x.depth(), 0);
        }
    }

    public static void main(String[] args) {
        upToEightAndDownAgain();
        eachOperation();
        aPushTooMany();
        aPopTooMany();
        startMakesItZero();
        check.end();
    }
}
