/** Promise 5: start empties the stack and sets pc, count and status back; program and memory stay. */
public final class Promise05StartTest {
    private static final Check check = new Check();

    private static FpuStackTrans sample() {
        FpuStackTrans x = Check.program(FpuStackTrans.LIT, 4, FpuStackTrans.LIT, 6, FpuStackTrans.STORE, 3,
            FpuStackTrans.LIT, 8, FpuStackTrans.HALT, 0);
        x.poke(1, 11);
        return x;
    }

    private static void startedAgain(String when, FpuStackTrans x, int cell3) {
        x.start();
        check.state("start " + when, x, FpuStackTrans.RUNNING, 0, 0);
        check.memory("start " + when, x, 0, 11, 0, cell3);
        check.due("run after start " + when, x.run(200), FpuStackTrans.HALTED);
        check.state("run after start " + when, x, FpuStackTrans.HALTED, 4, 5, 8, 4);
        check.due("emit after start " + when, x.emit(FpuStackTrans.HALT, 0), 6);
    }

    private static void atOnce() {
        startedAgain("at once", sample(), 0);
    }

    private static void whileRunning() {
        FpuStackTrans x = sample();
        x.run(4);
        startedAgain("while running", x, 6);
    }

    private static void afterAHalt() {
        FpuStackTrans x = sample();
        x.run(200);
        startedAgain("after a halt", x, 6);
    }

    private static void afterAFault() {
        FpuStackTrans x = sample();
        x.patch(3, FpuStackTrans.ADD, 5);
        check.due("run into a fault", x.run(200), FpuStackTrans.FAULT);
        x.patch(3, FpuStackTrans.LIT, 8);
        startedAgain("after a fault", x, 6);
    }

    private static void theOldStackIsGone() {
        FpuStackTrans x = Check.program(FpuStackTrans.LIT, 4, FpuStackTrans.LIT, 5);
        x.run(2);
        x.patch(0, FpuStackTrans.DUP, 0);
        x.start();
        check.due("DUP of an old value", x.run(1), FpuStackTrans.FAULT);
        check.state("DUP of an old value", x, FpuStackTrans.FAULT, 0, 0);
    }

    private static void onAnEmptyProgram() {
        FpuStackTrans x = new FpuStackTrans();
        x.run(1);
        x.start();
        check.state("start without a program", x, FpuStackTrans.RUNNING, 0, 0);
    }

    public static void main(String[] args) {
        atOnce();
        whileRunning();
        afterAHalt();
        afterAFault();
        theOldStackIsGone();
        onAnEmptyProgram();
        check.end();
    }
}
