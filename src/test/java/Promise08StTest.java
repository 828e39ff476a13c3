/** Promise 8: st(i) is the value i below the top, and 0 if it is not on the stack. */
public final class Promise08StTest {
    private static final Check check = new Check();

    private static void atEveryDepth() {
        FpuStackTrans x = new FpuStackTrans();
        for (int i = 1; i <= 8; i++) {
            x.emit(FpuStackTrans.LIT, i * 11);
        }
        for (int depth = 0; depth <= 8; depth++) {
            for (int i = -10; i <= 40; i++) {
                int want = i >= 0 && i < depth ? (depth - i) * 11 : 0;
                check.due("st(" + i + ") at depth " + depth, x.st(i), want);
            }
            x.run(1);
        }
    }

    private static void wrongNumbers() {
        FpuStackTrans x = Check.program(FpuStackTrans.LIT, 7, FpuStackTrans.LIT, 7);
        x.run(2);
        for (int i : Check.EXTREMES) {
            check.due("st(" + i + ")", x.st(i), i == 0 || i == 1 ? 7 : 0);
        }
    }

    private static void whatWasPoppedIsNotSeen() {
        FpuStackTrans x = Check.program(FpuStackTrans.LIT, 7, FpuStackTrans.LIT, 8, FpuStackTrans.STORE, 0,
            FpuStackTrans.STORE, 0);
        x.run(3);
        check.due("st(0) after one pop", x.st(0), 7);
        check.due("st(1) after one pop", x.st(1), 0);
        check.due("st(-1) after one pop", x.st(-1), 0);
        x.run(1);
        check.due("st(0) after two pops", x.st(0), 0);
        check.due("st(-1) after two pops", x.st(-1), 0);
    }

    private static void lookingChangesNothing() {
        FpuStackTrans x = Check.program(FpuStackTrans.LIT, 7);
        x.run(1);
        x.st(0);
        x.st(5);
        check.state("after st", x, FpuStackTrans.RUNNING, 1, 1, 7);
    }

    public static void main(String[] args) {
        atEveryDepth();
        wrongNumbers();
        whatWasPoppedIsNotSeen();
        lookingChangesNothing();
        check.end();
    }
}
