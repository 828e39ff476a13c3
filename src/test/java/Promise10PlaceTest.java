/** Promise 10: place is pc. */
public final class Promise10PlaceTest {
    private static final Check check = new Check();

    private static void stepByStep() {
        FpuStackTrans x = Check.program(FpuStackTrans.LIT, 0, FpuStackTrans.JZ, 4, FpuStackTrans.HALT, 0,
            FpuStackTrans.JMP, 2, FpuStackTrans.LIT, 1, FpuStackTrans.JNEG, 0, FpuStackTrans.JMP, 3);
        int[] places = {0, 1, 4, 5, 6, 3, 2, 2, 2};
        for (int step = 0; step < places.length; step++) {
            check.due("place() after " + step + " steps", x.place(), places[step]);
            x.run(1);
        }
    }

    private static void anInstructionBeforeItself() {
        FpuStackTrans x = Check.program(FpuStackTrans.JMP, 0);
        x.run(7);
        check.due("place() in a loop of one", x.place(), 0);
    }

    private static void aFaultKeepsIt() {
        FpuStackTrans x = Check.program(FpuStackTrans.LIT, 1, FpuStackTrans.DUP, 1);
        x.run(200);
        check.due("place() after a fault", x.place(), 1);
        FpuStackTrans y = Check.program(FpuStackTrans.LIT, 1, FpuStackTrans.JMP, 30);
        y.run(200);
        check.due("place() after a jump to no instruction", y.place(), 30);
        y.start();
        check.due("place() after start", y.place(), 0);
    }

    public static void main(String[] args) {
        stepByStep();
        anInstructionBeforeItself();
        aFaultKeepsIt();
        check.end();
    }
}
