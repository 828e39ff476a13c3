/** Promise 8: st(i) is the value i below the top, and 0 if it is not on the stack. */
public final class Promise08StTest {
    private static final Check check = new Check();

    /** "0 if it is not on the stack", beside the top and the lowest value of each depth */
    private static void atEveryDepth() {
        for (int depth = 0; depth <= 8; depth++) {
            FpuStackTrans x = Check.pushed(depth);
            for (int i = -40; i <= 40; i++) {
                check.due("st(" + i + ") at depth " + depth, x.st(i), i >= 0 && i < depth ? depth - i : 0);
            }
        }
    }

    /** "0 if it is not on the stack": the farthest numbers, of which none may wrap around into the stack */
    private static void farNumbers() {
        int[] far = {Check.MIN, Check.MIN + 1, Check.MIN + 7, Check.MIN + 8, -256, -9, 256, Check.MAX - 7, Check.MAX};
        for (int depth = 0; depth <= 8; depth++) {
            FpuStackTrans x = Check.pushed(depth);
            for (int i : far) {
                check.due("st(" + i + ") at depth " + depth, x.st(i), 0);
            }
        }
    }

    /** A value that was on the stack, and still may be somewhere inside the object. */
    private static void whatWasPoppedIsNotSeen() {
        FpuStackTrans x = Check.program(FpuStackTrans.LIT, 7, FpuStackTrans.LIT, 8, FpuStackTrans.STORE, 0,
            FpuStackTrans.STORE, 0);
        x.run(3);
        check.due("st(0) after one pop", x.st(0), 7);
        check.due("st(1) after one pop", x.st(1), 0);
        check.due("st(-1) after one pop", x.st(-1), 0);
        x.run(1);
        check.due("st(0) after two pops", x.st(0), 0);
        check.due("st(-1) after two pops", x.st(-1), 0);
    }

    private static void whatStartHasTakenAwayIsNotSeen() {
        FpuStackTrans x = Check.pushed(8);
        x.start();
        for (int i = -8; i <= 8; i++) {
            check.due("st(" + i + ") after start", x.st(i), 0);
        }
    }

    /** The stack can be looked at after a halt and after a fault, too. */
    private static void inEveryStatus() {
        int[] lasts = {FpuStackTrans.HALT, FpuStackTrans.SUB};
        for (int op : lasts) {
            FpuStackTrans x = Check.pushed(2);
            x.emit(op, 2);
            int status = x.run(1);
            check.due("st(0) in status " + status, x.st(0), 2);
            check.due("st(1) in status " + status, x.st(1), 1);
            check.due("st(2) in status " + status, x.st(2), 0);
        }
    }

    /** Any int may be on the stack, 0 too. */
    private static void everyValue() {
        for (int value : Check.EXTREMES) {
            FpuStackTrans x = Check.program(FpuStackTrans.LIT, value, FpuStackTrans.LIT, 5);
            x.run(1);
            check.due("st(0) of " + value, x.st(0), value);
            x.run(1);
            check.due("st(1) of " + value, x.st(1), value);
        }
    }

    /** A value that isn't there is answered, not a fault: that is for instructions. */
    private static void lookingChangesNothing() {
        FpuStackTrans x = Check.pushed(1);
        int[] numbers = {-1, 0, 1, 8};
        for (int i : numbers) {
            x.st(i);
            check.state("after st(" + i + ")", x, FpuStackTrans.RUNNING, 1, 1, 1);
        }
    }

    public static void main(String[] args) {
        atEveryDepth();
        farNumbers();
        whatWasPoppedIsNotSeen();
        whatStartHasTakenAwayIsNotSeen();
        inEveryStatus();
        everyValue();
        lookingChangesNothing();
        check.end();
    }
}
