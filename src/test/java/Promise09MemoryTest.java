/** Promise 9: memory(cell) is the cell's value, and 0 for a cell outside 0..7. */
public final class Promise09MemoryTest {
    private static final Check check = new Check();

    private static void everyCell() {
        FpuStackTrans x = new FpuStackTrans();
        for (int cell = 0; cell < 8; cell++) {
            x.poke(cell, 50 + cell);
        }
        for (int cell = -40; cell <= 40; cell++) {
            check.due("memory(" + cell + ")", x.memory(cell), cell >= 0 && cell <= 7 ? 50 + cell : 0);
        }
        check.due("memory(least)", x.memory(Integer.MIN_VALUE), 0);
        check.due("memory(greatest)", x.memory(Integer.MAX_VALUE), 0);
        check.memory("after looking", x, 50, 51, 52, 53, 54, 55, 56, 57);
        check.state("after looking", x, FpuStackTrans.RUNNING, 0, 0);
    }

    private static void whatTheProgramStores() {
        FpuStackTrans x = Check.program(FpuStackTrans.LIT, Integer.MIN_VALUE, FpuStackTrans.STORE, 7,
            FpuStackTrans.LIT, Integer.MAX_VALUE, FpuStackTrans.STORE, 0);
        x.run(2);
        check.memory("one stored", x, 0, 0, 0, 0, 0, 0, 0, Integer.MIN_VALUE);
        x.run(2);
        check.memory("two stored", x, Integer.MAX_VALUE, 0, 0, 0, 0, 0, 0, Integer.MIN_VALUE);
        x.start();
        check.memory("started", x, Integer.MAX_VALUE, 0, 0, 0, 0, 0, 0, Integer.MIN_VALUE);
    }

    public static void main(String[] args) {
        everyCell();
        whatTheProgramStores();
        check.end();
    }
}
