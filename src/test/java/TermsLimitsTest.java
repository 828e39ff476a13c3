/** 'Terms': how much stack, memory and program there is, and where arithmetic wraps. */
public final class TermsLimitsTest {
    private static final Check check = new Check();

    /** "a stack of up to 8 ints" */
    private static void theStackHoldsEight() {
        FpuStackTrans x = new FpuStackTrans();
        int[] values = {Check.MIN, Check.MAX, -1, 0, 1, 1 << 16, Check.MIN + 1, Check.MAX - 1, 5};
        for (int value : values) {
            x.emit(FpuStackTrans.LIT, value);
        }
        check.due("the 8th push", x.run(8), FpuStackTrans.RUNNING);
        check.state("8 pushed", x, FpuStackTrans.RUNNING, 8, 8,
            Check.MAX - 1, Check.MIN + 1, 1 << 16, 1, 0, -1, Check.MAX, Check.MIN);
        check.due("the 9th push", x.run(1), FpuStackTrans.FAULT);
        check.state("9 not pushed", x, FpuStackTrans.FAULT, 8, 8,
            Check.MAX - 1, Check.MIN + 1, 1 << 16, 1, 0, -1, Check.MAX, Check.MIN);
    }

    /** "a memory of 8 ints (cells 0 to 7)": by instructions; poke and memory have their own tests. */
    private static void theMemoryHoldsEight() {
        FpuStackTrans x = new FpuStackTrans();
        for (int cell = 0; cell < 8; cell++) {
            x.emit(FpuStackTrans.LIT, Check.MAX - cell);
            check.due("STORE " + cell, x.emit(FpuStackTrans.STORE, cell), 2 * cell + 2);
        }
        for (int cell = 0; cell < 8; cell++) {
            check.due("LOAD " + cell, x.emit(FpuStackTrans.LOAD, cell), 17 + cell);
        }
        int[] beyond = {-1, 8};
        for (int cell : beyond) {
            check.due("STORE " + cell, x.emit(FpuStackTrans.STORE, cell), FpuStackTrans.BAD);
            check.due("LOAD " + cell, x.emit(FpuStackTrans.LOAD, cell), FpuStackTrans.BAD);
        }
        x.run(24);
        check.state("8 cells", x, FpuStackTrans.RUNNING, 24, 24, Check.MAX - 7, Check.MAX - 6, Check.MAX - 5,
            Check.MAX - 4, Check.MAX - 3, Check.MAX - 2, Check.MAX - 1, Check.MAX);
        check.memory("8 cells", x, Check.MAX, Check.MAX - 1, Check.MAX - 2, Check.MAX - 3, Check.MAX - 4,
            Check.MAX - 5, Check.MAX - 6, Check.MAX - 7);
    }

    /** "a program of up to 32 instructions (numbered from 0)" */
    private static void theProgramHolds32() {
        FpuStackTrans x = new FpuStackTrans();
        for (int i = 0; i < 16; i++) {
            x.emit(FpuStackTrans.LIT, 100 + i);
            x.emit(FpuStackTrans.STORE, i % 8);
        }
        check.due("a 33rd instruction", x.emit(FpuStackTrans.HALT, 0), FpuStackTrans.FULL);
        for (int i = 0; i < 32; i++) {
            check.due("place() before instruction " + i, x.place(), i);
            check.due("run(1) of instruction " + i, x.run(1), FpuStackTrans.RUNNING);
        }
        check.state("after instruction 31", x, FpuStackTrans.RUNNING, 32, 32);
        check.memory("after instruction 31", x, 108, 109, 110, 111, 112, 113, 114, 115);
        check.due("run(1) of no instruction", x.run(1), FpuStackTrans.FAULT);
    }

    /** The result of an operation on st(0) and st(1), which stands on top after it. */
    private static void result(String what, int op, int below, int top, int want) {
        FpuStackTrans x = Check.program(FpuStackTrans.LIT, below, FpuStackTrans.LIT, top, op, 1);
        check.due(what + ": run(3)", x.run(3), FpuStackTrans.RUNNING);
        check.due(what + " of " + top + " and " + below, x.st(0), want);
    }

    /** "Arithmetic wraps as in Java." */
    private static void sumsWrap() {
        int[] operations = {FpuStackTrans.ADD, FpuStackTrans.ADDP};
        for (int op : operations) {
            result("the greatest sum", op, 1, Check.MAX - 1, Check.MAX);
            result("a sum too great", op, 1, Check.MAX, Check.MIN);
            result("a sum too great by more", op, Check.MAX, Check.MAX, -2);
            result("the least sum", op, -1, Check.MIN + 1, Check.MIN);
            result("a sum too small", op, -1, Check.MIN, Check.MAX);
            result("a sum too small by more", op, Check.MIN, Check.MIN, 0);
        }
    }

    /** "Arithmetic wraps as in Java." */
    private static void differencesWrap() {
        result("the least st(0) - st(1)", FpuStackTrans.SUB, 1, Check.MIN + 1, Check.MIN);
        result("st(0) - st(1) too small", FpuStackTrans.SUB, 1, Check.MIN, Check.MAX);
        result("the greatest st(0) - st(1)", FpuStackTrans.SUB, -1, Check.MAX - 1, Check.MAX);
        result("st(0) - st(1) too great", FpuStackTrans.SUB, -1, Check.MAX, Check.MIN);
        result("0 less the least", FpuStackTrans.SUB, Check.MIN, 0, Check.MIN);
        result("the least st(1) - st(0)", FpuStackTrans.SUBP, Check.MIN + 1, 1, Check.MIN);
        result("st(1) - st(0) too small", FpuStackTrans.SUBP, Check.MIN, 1, Check.MAX);
        result("the greatest st(1) - st(0)", FpuStackTrans.SUBP, Check.MAX - 1, -1, Check.MAX);
        result("st(1) - st(0) too great", FpuStackTrans.SUBP, Check.MAX, -1, Check.MIN);
        result("0 less the least", FpuStackTrans.SUBP, 0, Check.MIN, Check.MIN);
    }

    /** "Arithmetic wraps as in Java." */
    private static void productsWrap() {
        result("a product that fits", FpuStackTrans.MUL, 2, (1 << 30) - 1, Check.MAX - 1);
        result("a product too great", FpuStackTrans.MUL, 2, 1 << 30, Check.MIN);
        result("the least product", FpuStackTrans.MUL, -2, 1 << 30, Check.MIN);
        result("a product too small", FpuStackTrans.MUL, -2, (1 << 30) + 1, Check.MAX - 1);
        result("a product with lost bits", FpuStackTrans.MUL, 65537, 65537, 131073);
        result("a product with no bit left", FpuStackTrans.MUL, 65536, 65536, 0);
        result("the least, negated", FpuStackTrans.MUL, -1, Check.MIN, Check.MIN);
        result("the greatest, squared", FpuStackTrans.MUL, Check.MAX, Check.MAX, 1);
    }

    public static void main(String[] args) {
        theStackHoldsEight();
        theMemoryHoldsEight();
        theProgramHolds32();
        sumsWrap();
        differencesWrap();
        productsWrap();
        check.end();
    }
}
