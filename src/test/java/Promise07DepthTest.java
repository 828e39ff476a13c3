/** Promise 7: depth is the number of values on the stack. */
public final class Promise07DepthTest {
    private static final Check check = new Check();

    private static void upToEightAndDownAgain() {
        FpuStackTrans x = new FpuStackTrans();
        for (int i = 0; i < 8; i++) {
            x.emit(FpuStackTrans.LIT, 0);
        }
        for (int i = 0; i < 8; i++) {
            x.emit(FpuStackTrans.STORE, i);
        }
        check.due("depth() before the run", x.depth(), 0);
        for (int step = 1; step <= 16; step++) {
            x.run(1);
            check.due("depth() after step " + step, x.depth(), step <= 8 ? step : 16 - step);
        }
    }

    private static void changeOf(int op, int change) {
        FpuStackTrans x = Check.program(FpuStackTrans.LIT, 1, FpuStackTrans.LIT, 1, FpuStackTrans.LIT, 1, op, 1);
        x.run(4);
        check.due("depth() after operation " + op, x.depth(), 3 + change);
    }

    private static void eachOperation() {
        int[] changes = {1, 1, 1, -1, 0, 0, 0, 0, -1, -1, -1, -1, 0, 0};
        for (int op = 0; op < changes.length; op++) {
            changeOf(op, changes[op]);
        }
    }

    private static void aFaultKeepsIt() {
        FpuStackTrans x = Check.program(FpuStackTrans.LIT, 1, FpuStackTrans.JMP, 0);
        x.run(200);
        check.due("depth() after a push too many", x.depth(), 8);
        FpuStackTrans y = Check.program(FpuStackTrans.STORE, 0);
        y.run(1);
        check.due("depth() after a pop too many", y.depth(), 0);
    }

    public static void main(String[] args) {
        upToEightAndDownAgain();
        eachOperation();
        aFaultKeepsIt();
        check.end();
    }
}
