/** Promise 12: a refused call changes nothing, whatever the status. */
public final class Promise12RefusalsTest {
    private static final Check check = new Check();

    private static void refuseAll(String when, FpuStackTrans x, int refusedEmit) {
        int[] places = {Integer.MIN_VALUE, -1, 32, Integer.MAX_VALUE};
        for (int bad : places) {
            check.due(when + ": emit(" + bad + ", 1)", x.emit(bad, 1), refusedEmit);
            check.due(when + ": patch(" + bad + ", HALT, 0)", x.patch(bad, FpuStackTrans.HALT, 0), FpuStackTrans.BAD);
            check.due(when + ": patch(0, " + bad + ", 1)", x.patch(0, bad, 1), FpuStackTrans.BAD);
            check.due(when + ": poke(" + bad + ", 1)", x.poke(bad, 1), false);
            for (int op = FpuStackTrans.DUP; op <= FpuStackTrans.JMP; op++) {
                check.due(when + ": emit(" + op + ", " + bad + ")", x.emit(op, bad), refusedEmit);
                check.due(when + ": patch(0, " + op + ", " + bad + ")", x.patch(0, op, bad), FpuStackTrans.BAD);
            }
        }
    }

    /** LIT 6, STORE 2, LIT 5, then JMP to the next until the program is full, the last one a HALT. */
    private static FpuStackTrans longProgram(int length) {
        FpuStackTrans x = Check.program(FpuStackTrans.LIT, 6, FpuStackTrans.STORE, 2, FpuStackTrans.LIT, 5);
        for (int i = 3; i < length - 1; i++) {
            x.emit(FpuStackTrans.JMP, i + 1);
        }
        x.emit(FpuStackTrans.HALT, 0);
        return x;
    }

    private static void inAProgramOf(int length, int refusedEmit) {
        FpuStackTrans x = longProgram(length);
        x.run(3);
        refuseAll("running", x, refusedEmit);
        check.state("refused while running", x, FpuStackTrans.RUNNING, 3, 3, 5);
        check.memory("refused while running", x, 0, 0, 6);
        check.due("run to the halt", x.run(200), FpuStackTrans.HALTED);
        refuseAll("halted", x, refusedEmit);
        check.state("refused after a halt", x, FpuStackTrans.HALTED, length - 1, length, 5);
        x.start();
        check.due("the whole program again", x.run(200), FpuStackTrans.HALTED);
        check.state("the whole program again", x, FpuStackTrans.HALTED, length - 1, length, 5);
        check.memory("the whole program again", x, 0, 0, 6);
    }

    private static void afterAFault() {
        FpuStackTrans x = Check.program(FpuStackTrans.LIT, 6, FpuStackTrans.STORE, 2, FpuStackTrans.STORE, 3);
        x.run(200);
        refuseAll("fault", x, FpuStackTrans.BAD);
        check.state("refused after a fault", x, FpuStackTrans.FAULT, 2, 2);
        check.memory("refused after a fault", x, 0, 0, 6);
        check.due("emit after refusals", x.emit(FpuStackTrans.HALT, 0), 4);
    }

    private static void onANewObject() {
        FpuStackTrans x = new FpuStackTrans();
        refuseAll("new", x, FpuStackTrans.BAD);
        check.state("refused when new", x, FpuStackTrans.RUNNING, 0, 0);
        check.memory("refused when new", x);
        check.due("first emit after refusals", x.emit(FpuStackTrans.HALT, 0), 1);
    }

    public static void main(String[] args) {
        inAProgramOf(12, FpuStackTrans.BAD);
        inAProgramOf(32, FpuStackTrans.FULL);
        afterAFault();
        onANewObject();
        check.end();
    }
}
