/** Promise 2: emit adds at the end; FULL, then a bad op, then a bad number; the machine's state stays. */
public final class Promise02EmitTest {
    private static final Check check = new Check();

    /** On an object with one instruction, so that a jump's number has nothing to do with how many there are. */
    private static void emitOnce(int op, int a, boolean taken) {
        FpuStackTrans x = Check.program(FpuStackTrans.HALT, 0);
        String call = "emit(" + op + ", " + a + ")";
        check.due(call, x.emit(op, a), taken ? 2 : FpuStackTrans.BAD);
        check.due(call + ", then emit(HALT, 0)", x.emit(FpuStackTrans.HALT, 0), taken ? 3 : 2);
    }

    /** "32 instructions are there: FULL" */
    private static void full() {
        FpuStackTrans x = Check.jumps(31);
        check.due("emit with 31 instructions", x.emit(FpuStackTrans.HALT, 0), 32);
        check.due("emit with 32 instructions", x.emit(FpuStackTrans.HALT, 0), FpuStackTrans.FULL);
        check.due("emit once more", x.emit(FpuStackTrans.LIT, 5), FpuStackTrans.FULL);
        check.due("run of all 32", x.run(200), FpuStackTrans.HALTED);
        check.state("all 32", x, FpuStackTrans.HALTED, 31, 32);
        x.start();
        check.due("emit after start", x.emit(FpuStackTrans.HALT, 0), FpuStackTrans.FULL);
        check.due("patch of a full program", x.patch(0, FpuStackTrans.HALT, 0), 32);
        check.due("emit after patch", x.emit(FpuStackTrans.HALT, 0), FpuStackTrans.FULL);
    }

    /** "Tested in this order": with 32 instructions a wrong op or number is FULL, not BAD. */
    private static void fullComesBeforeBad() {
        FpuStackTrans x = Check.jumps(31);
        fullOrBad(x, "31 instructions", FpuStackTrans.BAD);
        x.emit(FpuStackTrans.HALT, 0);
        fullOrBad(x, "32 instructions", FpuStackTrans.FULL);
    }

    private static void fullOrBad(FpuStackTrans x, String when, int want) {
        check.due("emit(-1, 0) with " + when, x.emit(-1, 0), want);
        check.due("emit(14, 0) with " + when, x.emit(14, 0), want);
        check.due("emit(DUP, -1) with " + when, x.emit(FpuStackTrans.DUP, -1), want);
        check.due("emit(MUL, 8) with " + when, x.emit(FpuStackTrans.MUL, 8), want);
        check.due("emit(ADDP, 0) with " + when, x.emit(FpuStackTrans.ADDP, 0), want);
        check.due("emit(JMP, 32) with " + when, x.emit(FpuStackTrans.JMP, 32), want);
    }

    /** What was refused takes no room. */
    private static void refusedOnesDoNotFillTheProgram() {
        FpuStackTrans x = new FpuStackTrans();
        for (int i = 1; i <= 32; i++) {
            check.due("a refused emit", x.emit(14, i), FpuStackTrans.BAD);
            check.due("emit number " + i, x.emit(FpuStackTrans.LIT, i), i);
        }
    }

    /** "LIT takes any a" and pushes it as it is. */
    private static void litPushesWhatItWasGiven() {
        for (int a : Check.EXTREMES) {
            FpuStackTrans x = Check.program(FpuStackTrans.LIT, a);
            x.run(1);
            check.state("LIT " + a, x, FpuStackTrans.RUNNING, 1, 1, a);
        }
    }

    /** "for HALT it plays no part" */
    private static void haltHaltsWithEveryNumber() {
        for (int a : Check.EXTREMES) {
            FpuStackTrans x = Check.program(FpuStackTrans.HALT, a);
            x.run(1);
            check.state("HALT " + a, x, FpuStackTrans.HALTED, 0, 1);
        }
    }

    /** "Else answers the new number of instructions" */
    private static void answersTheNewNumber() {
        FpuStackTrans x = new FpuStackTrans();
        for (int i = 1; i <= 32; i++) {
            check.due("emit number " + i, x.emit(i % 14, 1), i);
        }
    }

    /** "Stack, memory, pc, count and status stay." */
    private static void stateStays() {
        FpuStackTrans x = Check.program(FpuStackTrans.LIT, 3, FpuStackTrans.LIT, 4);
        x.poke(2, 6);
        x.run(2);
        x.emit(FpuStackTrans.SUB, 1);
        check.state("emit while running", x, FpuStackTrans.RUNNING, 2, 2, 4, 3);
        check.memory("emit while running", x, 0, 0, 6);
        x.run(2);
        x.emit(FpuStackTrans.HALT, 0);
        check.state("emit after a fault", x, FpuStackTrans.FAULT, 3, 3, 1, 3);
        check.due("run after a fault and emit", x.run(1), FpuStackTrans.FAULT);
        x.start();
        x.run(200);
        x.emit(FpuStackTrans.LIT, 0);
        check.state("emit after a halt", x, FpuStackTrans.HALTED, 3, 4, 1, 3);
        check.memory("emit after a halt", x, 0, 0, 6);
    }

    /** "pc [..] stay": where it stands beyond the program, too. */
    private static void aPlaceBeyondTheEndStays() {
        FpuStackTrans x = Check.program(FpuStackTrans.JMP, 31);
        x.run(1);
        for (int length = 2; length <= 32; length++) {
            x.emit(FpuStackTrans.LIT, length);
            check.due("place() with " + length + " instructions", x.place(), 31);
        }
        x.run(1);
        check.state("instruction 31, emitted last", x, FpuStackTrans.RUNNING, 32, 2, 32);
    }

    /** "Adds an instruction at the end": behind the others, which stay, and ahead of pc if that is there already. */
    private static void addsAtTheEnd() {
        FpuStackTrans x = Check.program(FpuStackTrans.LIT, 3);
        x.run(1);
        x.emit(FpuStackTrans.LIT, Check.MIN);
        x.emit(FpuStackTrans.HALT, Check.MAX);
        x.run(2);
        check.state("emitted at pc", x, FpuStackTrans.HALTED, 2, 3, Check.MIN, 3);
        x.emit(FpuStackTrans.LIT, 8);
        FpuStackTrans twin = Check.program(FpuStackTrans.LIT, 3, FpuStackTrans.LIT, Check.MIN, FpuStackTrans.HALT, 0);
        check.sameFromTheStart("emitted behind a halt", x, twin, 4);
    }

    public static void main(String[] args) {
        Bounds.attemptAll(Promise02EmitTest::emitOnce);
        full();
        fullComesBeforeBad();
        refusedOnesDoNotFillTheProgram();
        litPushesWhatItWasGiven();
        haltHaltsWithEveryNumber();
        answersTheNewNumber();
        stateStays();
        aPlaceBeyondTheEndStays();
        addsAtTheEnd();
        check.end();
    }
}
