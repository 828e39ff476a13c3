/** Promise 2: emit adds at the end; FULL, then a bad op, then a bad number; the machine's state stays. */
public final class Promise02EmitTest {
    private static final Check check = new Check();

    private static void emitOnce(int op, int a, boolean taken) {
        FpuStackTrans x = new FpuStackTrans();
        String call = "emit(" + op + ", " + a + ")";
        check.due(call, x.emit(op, a), taken ? 1 : FpuStackTrans.BAD);
        check.due(call + ", then emit(HALT, 0)", x.emit(FpuStackTrans.HALT, 0), taken ? 2 : 1);
    }

    private static void fullComesFirst() {
        FpuStackTrans x = new FpuStackTrans();
        for (int i = 0; i < 31; i++) {
            check.due("emit number " + (i + 1), x.emit(FpuStackTrans.JMP, i + 1), i + 1);
        }
        check.due("a bad op with 31 instructions", x.emit(14, 0), FpuStackTrans.BAD);
        check.due("a bad number with 31 instructions", x.emit(FpuStackTrans.DUP, 8), FpuStackTrans.BAD);
        check.due("emit number 32", x.emit(FpuStackTrans.HALT, 0), 32);
        check.due("emit number 33", x.emit(FpuStackTrans.HALT, 0), FpuStackTrans.FULL);
        check.due("a bad op with 32 instructions", x.emit(-1, 0), FpuStackTrans.FULL);
        check.due("a bad number with 32 instructions", x.emit(FpuStackTrans.ADDP, 0), FpuStackTrans.FULL);
        check.due("run of all 32", x.run(200), FpuStackTrans.HALTED);
        check.state("all 32", x, FpuStackTrans.HALTED, 31, 32);
    }

    private static void stateStays() {
        FpuStackTrans x = Check.program(FpuStackTrans.LIT, 3, FpuStackTrans.LIT, 4);
        x.poke(2, 6);
        x.run(2);
        x.emit(FpuStackTrans.SUB, 1);
        check.state("emit while running", x, FpuStackTrans.RUNNING, 2, 2, 4, 3);
        check.memory("emit while running", x, 0, 0, 6);
        x.run(2);
        x.emit(FpuStackTrans.HALT, 0);
        check.state("emit after a fault", x, FpuStackTrans.FAULT, 3, 3, 1, 3);
        check.due("run after a fault and emit", x.run(1), FpuStackTrans.FAULT);
        x.start();
        x.run(200);
        x.emit(FpuStackTrans.LIT, 0);
        check.state("emit after a halt", x, FpuStackTrans.HALTED, 3, 4, 1, 3);
        check.memory("emit after a halt", x, 0, 0, 6);
    }

    private static void theNewInstructionIsTheOneRun() {
        FpuStackTrans x = Check.program(FpuStackTrans.LIT, 3);
        x.run(1);
        x.emit(FpuStackTrans.LIT, Integer.MIN_VALUE);
        x.emit(FpuStackTrans.HALT, Integer.MAX_VALUE);
        x.run(2);
        check.state("emitted at pc", x, FpuStackTrans.HALTED, 2, 3, Integer.MIN_VALUE, 3);
    }

    public static void main(String[] args) {
        Check.attemptAll(Promise02EmitTest::emitOnce);
        fullComesFirst();
        stateStays();
        theNewInstructionIsTheOneRun();
        check.end();
    }
}
