/** 'What it is': an object is used for at most 512 calls, so the 512th is still answered as promised. */
public final class UseTest {
    private static final Check check = new Check();

    /** LIT 5, then a loop of one: 511 calls, by which 507 * 200 instructions have been executed. */
    private static FpuStackTrans after511Calls() {
        FpuStackTrans x = new FpuStackTrans();
        x.emit(FpuStackTrans.LIT, 5);
        x.emit(FpuStackTrans.JMP, 1);
        x.poke(3, 9);
        for (int runs = 0; runs < 507; runs++) {
            x.run(200);
        }
        x.poke(4, 8);
        return x;
    }

    private static void the512thCallChanges() {
        check.due("512th call: emit(HALT, 0)", after511Calls().emit(FpuStackTrans.HALT, 0), 3);
        check.due("512th call: emit(14, 0)", after511Calls().emit(14, 0), FpuStackTrans.BAD);
        check.due("512th call: patch(1, HALT, 0)", after511Calls().patch(1, FpuStackTrans.HALT, 0), 2);
        check.due("512th call: patch(2, HALT, 0)", after511Calls().patch(2, FpuStackTrans.HALT, 0), FpuStackTrans.BAD);
        check.due("512th call: poke(7, 1)", after511Calls().poke(7, 1), true);
        check.due("512th call: poke(8, 1)", after511Calls().poke(8, 1), false);
        check.due("512th call: run(200)", after511Calls().run(200), FpuStackTrans.RUNNING);
    }

    private static void the512thCallLooks() {
        check.due("512th call: depth()", after511Calls().depth(), 1);
        check.due("512th call: st(0)", after511Calls().st(0), 5);
        check.due("512th call: st(1)", after511Calls().st(1), 0);
        check.due("512th call: memory(3)", after511Calls().memory(3), 9);
        check.due("512th call: memory(4)", after511Calls().memory(4), 8);
        check.due("512th call: memory(8)", after511Calls().memory(8), 0);
        check.due("512th call: place()", after511Calls().place(), 1);
        check.due("512th call: executed()", after511Calls().executed(), 101400);
    }

    private static void the511thCallIsAStart() {
        FpuStackTrans x = Check.program(FpuStackTrans.JMP, 0);
        for (int runs = 0; runs < 509; runs++) {
            x.run(200);
        }
        x.start();
        check.due("executed() after a start", x.executed(), 0);
    }

    /** Every emit but the first 32 is one too many, and each of the 480 is told so. */
    private static void fiveHundredAndTwelveEmits() {
        FpuStackTrans x = new FpuStackTrans();
        for (int calls = 1; calls <= 512; calls++) {
            int want = calls <= 32 ? calls : FpuStackTrans.FULL;
            check.due("emit number " + calls, x.emit(FpuStackTrans.LIT, calls), want);
        }
    }

    /** Mostly a number that is taken somewhere or nearly so, and sometimes one from the ends of int. */
    private static int wild(int k) {
        return k % 5 == 0 ? Check.EXTREMES[k / 5 % Check.EXTREMES.length] : k % 41 - 4;
    }

    /** What the 513th call and later ones answer is free, but none may throw or fail to end, whatever it is given. */
    private static void laterCallsEnd() {
        FpuStackTrans x = after511Calls();
        for (int k = 0; k < 20000; k++) {
            x.emit(wild(k), wild(k / 3));
            x.patch(wild(k), wild(k / 5), wild(k / 7));
            x.poke(wild(k / 2), k);
            x.run(wild(k));
            x.st(wild(k));
            x.memory(wild(k));
            x.depth();
            x.place();
            x.executed();
            if (k % 7 == 0) {
                x.start();
            }
        }
    }

    public static void main(String[] args) {
        the512thCallChanges();
        the512thCallLooks();
        the511thCallIsAStart();
        fiveHundredAndTwelveEmits();
        laterCallsEnd();
        check.end();
    }
}
