/** Promise 1: no instructions, empty stack, memory 0, pc 0, count 0, status RUNNING. */
public final class Promise01NewObjectTest {
    private static final Check check = new Check();

    private static void allThatCanBeSeen() {
        FpuStackTrans x = new FpuStackTrans();
        check.state("new", x, FpuStackTrans.RUNNING, 0, 0);
        check.memory("new", x);
    }

    /** "No instructions" */
    private static void noInstructions() {
        FpuStackTrans x = new FpuStackTrans();
        check.due("patch(0, HALT, 0) on a new object", x.patch(0, FpuStackTrans.HALT, 0), FpuStackTrans.BAD);
        check.due("first emit", x.emit(FpuStackTrans.HALT, 0), 1);
        check.due("patch(0, HALT, 0) after one emit", x.patch(0, FpuStackTrans.HALT, 0), 1);
        check.due("run(1) on a new object", new FpuStackTrans().run(1), FpuStackTrans.FAULT);
        check.due("run(1) after one emit", x.run(1), FpuStackTrans.HALTED);
    }

    /** "empty stack": room for 8 values, and none to take. */
    private static void emptyStack() {
        int[] takers = {FpuStackTrans.DUP, FpuStackTrans.STORE, FpuStackTrans.XCH, FpuStackTrans.ADD, FpuStackTrans.JZ};
        for (int op : takers) {
            check.due("operation " + op + " on a new stack", Check.program(op, 0).run(1), FpuStackTrans.FAULT);
        }
        FpuStackTrans x = Check.pushed(8);
        check.state("8 values on a new stack", x, FpuStackTrans.RUNNING, 8, 8, Check.pushedStack(8));
    }

    /** "memory 0" */
    private static void memoryIsZero() {
        for (int cell = 0; cell <= 7; cell++) {
            FpuStackTrans x = Check.program(FpuStackTrans.LOAD, cell);
            x.run(1);
            check.state("LOAD " + cell + " of a new memory", x, FpuStackTrans.RUNNING, 1, 1, 0);
        }
    }

    /** "status RUNNING": seen by a run that tries nothing. */
    private static void statusIsRunning() {
        check.due("run(0) on a new object", new FpuStackTrans().run(0), FpuStackTrans.RUNNING);
        check.due("run(-1) on a new object", new FpuStackTrans().run(-1), FpuStackTrans.RUNNING);
    }

    private static void objectsShareNothing() {
        FpuStackTrans used = Check.program(FpuStackTrans.LIT, 5, FpuStackTrans.DUP, 0, FpuStackTrans.STORE, 1);
        FpuStackTrans x = new FpuStackTrans();
        used.poke(4, 9);
        used.run(200);
        check.state("beside a used object", x, FpuStackTrans.RUNNING, 0, 0);
        check.memory("beside a used object", x);
        check.state("after a used object", new FpuStackTrans(), FpuStackTrans.RUNNING, 0, 0);
        check.due("emit beside a used object", x.emit(FpuStackTrans.HALT, 0), 1);
        check.state("the used object", used, FpuStackTrans.FAULT, 3, 3, 5);
        check.memory("the used object", used, 0, 5, 0, 0, 9);
    }

    public static void main(String[] args) {
        allThatCanBeSeen();
        noInstructions();
        emptyStack();
        memoryIsZero();
        statusIsRunning();
        objectsShareNothing();
        check.end();
    }
}
