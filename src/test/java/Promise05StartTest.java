/** Promise 5: start empties the stack and sets pc, count and status back; program and memory stay. */
public final class Promise05StartTest {
    private static final Check check = new Check();

    private static FpuStackTrans sample() {
        FpuStackTrans x = Check.program(FpuStackTrans.LIT, 4, FpuStackTrans.LIT, 6, FpuStackTrans.STORE, 3,
            FpuStackTrans.LIT, 8, FpuStackTrans.HALT, 0);
        x.poke(1, 11);
        return x;
    }

    private static void startedAgain(String when, FpuStackTrans x, int cell3) {
        x.start();
        check.state("start " + when, x, FpuStackTrans.RUNNING, 0, 0);
        check.memory("start " + when, x, 0, 11, 0, cell3);
        check.due("run after start " + when, x.run(200), FpuStackTrans.HALTED);
        check.state("run after start " + when, x, FpuStackTrans.HALTED, 4, 5, 8, 4);
        check.due("emit after start " + when, x.emit(FpuStackTrans.HALT, 0), 6);
    }

    private static void atOnce() {
        startedAgain("at once", sample(), 0);
    }

    private static void whileRunning() {
        FpuStackTrans x = sample();
        x.run(4);
        startedAgain("while running", x, 6);
    }

    private static void afterAHalt() {
        FpuStackTrans x = sample();
        x.run(200);
        startedAgain("after a halt", x, 6);
    }

    private static void afterAFault() {
        FpuStackTrans x = sample();
        x.patch(3, FpuStackTrans.ADD, 5);
        check.due("run into a fault", x.run(200), FpuStackTrans.FAULT);
        x.patch(3, FpuStackTrans.LIT, 8);
        startedAgain("after a fault", x, 6);
    }

    /** "Empties the stack": a full one too, after which there is room for 8 values again. */
    private static void aFullStack() {
        FpuStackTrans x = Check.pushed(8);
        x.start();
        check.state("start at depth 8", x, FpuStackTrans.RUNNING, 0, 0);
        check.due("8 values again", x.run(8), FpuStackTrans.RUNNING);
        check.state("8 values again", x, FpuStackTrans.RUNNING, 8, 8, Check.pushedStack(8));
    }

    /** "pc and count become 0": from the greatest place there is, and from a count far above 200. */
    private static void theEndOfAFullProgram() {
        FpuStackTrans x = Check.jumps(31);
        x.emit(FpuStackTrans.LIT, 7);
        x.run(32);
        check.state("at place 32", x, FpuStackTrans.RUNNING, 32, 32, 7);
        x.start();
        check.state("start at place 32", x, FpuStackTrans.RUNNING, 0, 0);
        x.patch(31, FpuStackTrans.JMP, 0);
        for (int runs = 0; runs < 200; runs++) {
            x.run(200);
        }
        check.due("executed() after 200 runs", x.executed(), 40000);
        x.start();
        check.state("start at count 40000", x, FpuStackTrans.RUNNING, 0, 0);
    }

    /** "Program and memory stay": all 32 instructions and all 8 cells. */
    private static void aFullProgramAndMemory() {
        FpuStackTrans x = new FpuStackTrans();
        for (int i = 0; i < 16; i++) {
            x.emit(FpuStackTrans.LOAD, i % 8);
            x.emit(FpuStackTrans.STORE, (i + 3) % 8);
        }
        for (int cell = 0; cell < 8; cell++) {
            x.poke(cell, Check.MAX - cell);
        }
        int[] cells = Check.memoryOf(x);
        x.start();
        check.memory("start with a full memory", x, cells);
        check.due("emit after start with 32 instructions", x.emit(FpuStackTrans.HALT, 0), FpuStackTrans.FULL);
        for (int i = 0; i < 16; i++) {
            x.run(2);
            cells[(i + 3) % 8] = cells[i % 8];
            check.memory("start, then " + (i + 1) + " cells copied", x, cells);
        }
        check.state("start, then all 32", x, FpuStackTrans.RUNNING, 32, 32);
    }

    private static void twiceInARow() {
        FpuStackTrans x = sample();
        x.run(200);
        x.start();
        startedAgain("twice in a row", x, 6);
    }

    private static void theOldStackIsGone() {
        FpuStackTrans x = Check.program(FpuStackTrans.LIT, 4, FpuStackTrans.LIT, 5);
        x.run(2);
        x.patch(0, FpuStackTrans.DUP, 0);
        x.start();
        check.due("DUP of an old value", x.run(1), FpuStackTrans.FAULT);
        check.state("DUP of an old value", x, FpuStackTrans.FAULT, 0, 0);
    }

    private static void onAnEmptyProgram() {
        FpuStackTrans x = new FpuStackTrans();
        x.run(1);
        x.start();
        check.state("start without a program", x, FpuStackTrans.RUNNING, 0, 0);
    }

    public static void main(String[] args) {
        atOnce();
        whileRunning();
        afterAHalt();
        afterAFault();
        aFullStack();
        theEndOfAFullProgram();
        aFullProgramAndMemory();
        twiceInARow();
        theOldStackIsGone();
        onAnEmptyProgram();
        check.end();
    }
}
