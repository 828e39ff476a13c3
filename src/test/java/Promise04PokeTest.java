/** Promise 4: poke sets one memory cell, or refuses a cell outside 0..7. */
public final class Promise04PokeTest {
    private static final Check check = new Check();

    /** "Sets a memory cell": that one alone, to any int. */
    private static void eachCellAlone() {
        for (int cell = 0; cell < 8; cell++) {
            for (int value : Check.EXTREMES) {
                FpuStackTrans x = new FpuStackTrans();
                int[] cells = new int[8];
                cells[cell] = value;
                check.due("poke(" + cell + ", " + value + ")", x.poke(cell, value), true);
                check.memory("poke(" + cell + ", " + value + ")", x, cells);
                check.state("poke(" + cell + ", " + value + ")", x, FpuStackTrans.RUNNING, 0, 0);
            }
        }
    }

    private static void theLastPokeStands() {
        FpuStackTrans x = new FpuStackTrans();
        x.poke(5, 1);
        check.due("second poke(5, 0)", x.poke(5, 0), true);
        check.memory("poked back to 0", x);
    }

    /** "cell outside 0..7: refused, answers false. Else true." */
    private static void theCellsThatThereAre() {
        FpuStackTrans x = new FpuStackTrans();
        for (int cell = -40; cell <= 40; cell++) {
            check.due("poke(" + cell + ", 77)", x.poke(cell, 77), cell >= 0 && cell <= 7);
        }
        check.memory("poked all", x, 77, 77, 77, 77, 77, 77, 77, 77);
    }

    private static void noSuchCell() {
        FpuStackTrans x = new FpuStackTrans();
        for (int cell = 0; cell < 8; cell++) {
            x.poke(cell, cell + 1);
        }
        int[] cells = {-1, -8, 8, 9, 15, 16, 32, 256, Check.MIN, Check.MAX};
        for (int cell : cells) {
            check.due("poke(" + cell + ", 77)", x.poke(cell, 77), false);
        }
        check.memory("refused pokes", x, 1, 2, 3, 4, 5, 6, 7, 8);
        check.state("refused pokes", x, FpuStackTrans.RUNNING, 0, 0);
    }

    private static void inEveryStatus() {
        FpuStackTrans x = Check.program(FpuStackTrans.LIT, 2, FpuStackTrans.HALT, 0);
        x.run(1);
        check.due("poke while running", x.poke(0, 1), true);
        check.state("poke while running", x, FpuStackTrans.RUNNING, 1, 1, 2);
        x.run(1);
        check.due("poke after a halt", x.poke(1, 2), true);
        check.state("poke after a halt", x, FpuStackTrans.HALTED, 1, 2, 2);
        x.patch(0, FpuStackTrans.STORE, 0);
        x.start();
        x.run(1);
        check.due("poke after a fault", x.poke(2, 3), true);
        check.state("poke after a fault", x, FpuStackTrans.FAULT, 0, 0);
        check.memory("poked in every status", x, 1, 2, 3);
    }

    private static void theProgramSeesIt() {
        FpuStackTrans x = Check.program(FpuStackTrans.LOAD, 6);
        x.poke(6, -12);
        x.run(1);
        check.state("loaded", x, FpuStackTrans.RUNNING, 1, 1, -12);
        x.poke(6, 5);
        check.state("poked after the load", x, FpuStackTrans.RUNNING, 1, 1, -12);
    }

    public static void main(String[] args) {
        eachCellAlone();
        theLastPokeStands();
        theCellsThatThereAre();
        noSuchCell();
        inEveryStatus();
        theProgramSeesIt();
        check.end();
    }
}
