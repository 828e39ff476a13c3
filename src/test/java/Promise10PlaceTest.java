/** Promise 10: place is pc. */
public final class Promise10PlaceTest {
    private static final Check check = new Check();

    private static void stepByStep() {
        FpuStackTrans x = Check.program(FpuStackTrans.LIT, 0, FpuStackTrans.JZ, 4, FpuStackTrans.HALT, 0,
            FpuStackTrans.JMP, 2, FpuStackTrans.LIT, 1, FpuStackTrans.JNEG, 0, FpuStackTrans.JMP, 3);
        int[] places = {0, 1, 4, 5, 6, 3, 2, 2, 2};
        for (int step = 0; step < places.length; step++) {
            check.due("place() after " + step + " steps", x.place(), places[step]);
            x.run(1);
        }
    }

    private static void anInstructionBeforeItself() {
        FpuStackTrans x = Check.program(FpuStackTrans.JMP, 0);
        x.run(7);
        check.due("place() in a loop of one", x.place(), 0);
    }

    /** From 0 up to 32, which is no instruction's number any more. */
    private static void theWholeWay() {
        FpuStackTrans x = new FpuStackTrans();
        for (int i = 0; i < 32; i++) {
            x.emit(i % 2 == 0 ? FpuStackTrans.LIT : FpuStackTrans.STORE, 1);
        }
        for (int step = 0; step <= 32; step++) {
            check.due("place() after " + step + " of 32 steps", x.place(), step);
            x.run(1);
        }
        check.due("place() after a fault at 32", x.place(), 32);
    }

    private static void aHaltKeepsIt() {
        FpuStackTrans x = Check.program(FpuStackTrans.HALT, 7);
        x.run(1);
        check.due("place() after a halt at 0", x.place(), 0);
        FpuStackTrans y = Check.jumps(31);
        y.emit(FpuStackTrans.HALT, 0);
        y.run(200);
        check.due("place() after a halt at 31", y.place(), 31);
    }

    private static void aFaultKeepsIt() {
        FpuStackTrans x = Check.program(FpuStackTrans.LIT, 1, FpuStackTrans.DUP, 1);
        x.run(200);
        check.due("place() after a fault", x.place(), 1);
        FpuStackTrans y = Check.program(FpuStackTrans.LIT, 1, FpuStackTrans.JMP, 30);
        y.run(200);
        check.due("place() after a jump to no instruction", y.place(), 30);
        y.start();
        check.due("place() after start", y.place(), 0);
    }

    /** Neither emit nor patch moves pc, also where it stands at no instruction. */
    private static void changingTheProgramKeepsIt() {
        FpuStackTrans x = Check.program(FpuStackTrans.JMP, 31);
        x.run(1);
        x.emit(FpuStackTrans.HALT, 0);
        check.due("place() after emit", x.place(), 31);
        x.patch(0, FpuStackTrans.JMP, 5);
        check.due("place() after patch", x.place(), 31);
    }

    public static void main(String[] args) {
        stepByStep();
        anInstructionBeforeItself();
        theWholeWay();
        aHaltKeepsIt();
        aFaultKeepsIt();
        changingTheProgramKeepsIt();
        check.end();
    }
}
