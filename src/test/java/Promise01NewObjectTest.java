/** Promise 1: no instructions, empty stack, memory 0, pc 0, count 0, status RUNNING. */
public final class Promise01NewObjectTest {
    private static final Check check = new Check();

    private static void everythingIsEmpty() {
        FpuStackTrans x = new FpuStackTrans();
        check.state("new", x, FpuStackTrans.RUNNING, 0, 0);
        check.memory("new", x);
    }

    private static void thereIsNoInstruction() {
        FpuStackTrans x = new FpuStackTrans();
        check.due("patch(0, HALT, 0) on a new object", x.patch(0, FpuStackTrans.HALT, 0), FpuStackTrans.BAD);
        check.due("run(1) on a new object", x.run(1), FpuStackTrans.FAULT);
        check.state("new, then run", x, FpuStackTrans.FAULT, 0, 0);
        check.due("first emit", new FpuStackTrans().emit(FpuStackTrans.HALT, 0), 1);
    }

    private static void objectsShareNothing() {
        FpuStackTrans used = Check.program(FpuStackTrans.LIT, 5, FpuStackTrans.DUP, 0, FpuStackTrans.STORE, 1);
        FpuStackTrans x = new FpuStackTrans();
        used.poke(4, 9);
        used.run(200);
        check.state("beside a used object", x, FpuStackTrans.RUNNING, 0, 0);
        check.memory("beside a used object", x);
        check.state("after a used object", new FpuStackTrans(), FpuStackTrans.RUNNING, 0, 0);
        check.due("emit beside a used object", x.emit(FpuStackTrans.HALT, 0), 1);
        check.state("the used object", used, FpuStackTrans.FAULT, 3, 3, 5);
        check.memory("the used object", used, 0, 5, 0, 0, 9);
    }

    public static void main(String[] args) {
        everythingIsEmpty();
        thereIsNoInstruction();
        objectsShareNothing();
        check.end();
    }
}
