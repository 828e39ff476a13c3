/** Promise 9: memory(cell) is the cell's value, and 0 for a cell outside 0..7. */
public final class Promise09MemoryTest {
    private static final Check check = new Check();

    private static FpuStackTrans poked() {
        FpuStackTrans x = new FpuStackTrans();
        for (int cell = 0; cell < 8; cell++) {
            x.poke(cell, 50 + cell);
        }
        return x;
    }

    /** "0 for cell outside 0..7", beside the first and the last one */
    private static void theCellsThatThereAre() {
        FpuStackTrans x = poked();
        for (int cell = -40; cell <= 40; cell++) {
            check.due("memory(" + cell + ")", x.memory(cell), cell >= 0 && cell <= 7 ? 50 + cell : 0);
        }
    }

    /** "0 for cell outside 0..7": the farthest numbers, of which none may wrap around into the memory */
    private static void farNumbers() {
        FpuStackTrans x = poked();
        int[] far = {Check.MIN, Check.MIN + 1, Check.MIN + 7, -256, 256, Check.MAX - 7, Check.MAX};
        for (int cell : far) {
            check.due("memory(" + cell + ")", x.memory(cell), 0);
        }
    }

    /** A cell that isn't there is answered, not a fault. */
    private static void lookingChangesNothing() {
        FpuStackTrans x = poked();
        int[] numbers = {-1, 0, 7, 8};
        for (int cell : numbers) {
            x.memory(cell);
            check.memory("after memory(" + cell + ")", x, 50, 51, 52, 53, 54, 55, 56, 57);
            check.state("after memory(" + cell + ")", x, FpuStackTrans.RUNNING, 0, 0);
        }
    }

    /** The memory can be looked at after a halt and after a fault, too. */
    private static void inEveryStatus() {
        int[] lasts = {FpuStackTrans.HALT, FpuStackTrans.STORE};
        for (int op : lasts) {
            FpuStackTrans x = poked();
            x.emit(op, 7);
            int status = x.run(1);
            check.memory("in status " + status, x, 50, 51, 52, 53, 54, 55, 56, 57);
            check.due("memory(8) in status " + status, x.memory(8), 0);
        }
    }

    private static void whatTheProgramStores() {
        FpuStackTrans x = Check.program(FpuStackTrans.LIT, Check.MIN, FpuStackTrans.STORE, 7,
            FpuStackTrans.LIT, Check.MAX, FpuStackTrans.STORE, 0);
        x.run(2);
        check.memory("one stored", x, 0, 0, 0, 0, 0, 0, 0, Check.MIN);
        x.run(2);
        check.memory("two stored", x, Check.MAX, 0, 0, 0, 0, 0, 0, Check.MIN);
        x.start();
        check.memory("started", x, Check.MAX, 0, 0, 0, 0, 0, 0, Check.MIN);
    }

    public static void main(String[] args) {
        theCellsThatThereAre();
        farNumbers();
        lookingChangesNothing();
        inEveryStatus();
        whatTheProgramStores();
        check.end();
    }
}
