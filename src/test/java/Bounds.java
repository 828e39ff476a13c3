/** The edges that emit and patch share: each operation and number at which they begin to refuse. */
final class Bounds {
    private static final int[] NO_OPERATIONS = {-1, 14, -2, 15, 16, 32, 256, Check.MIN, Check.MAX};

    /** A call of emit or patch with an operation and a number, and whether it is to be taken. */
    interface Attempt {
        void make(int op, int a, boolean taken);
    }

    private Bounds() {
    }

    static void attemptAll(Attempt attempt) {
        operations(attempt);
        dupToMul(attempt);
        addpAndSubp(attempt);
        jumps(attempt);
        lit(attempt);
        halt(attempt);
    }

    /** "op outside 0..13" */
    private static void operations(Attempt attempt) {
        attempt.make(FpuStackTrans.LIT, 1, true);
        attempt.make(FpuStackTrans.HALT, 1, true);
        for (int op : NO_OPERATIONS) {
            attempt.make(op, 0, false);
            attempt.make(op, 1, false);
        }
    }

    /** "DUP to MUL: a outside 0..7" */
    private static void dupToMul(Attempt attempt) {
        for (int op = FpuStackTrans.DUP; op <= FpuStackTrans.MUL; op++) {
            range(attempt, op, 0, 7);
        }
    }

    /** "ADDP and SUBP: a outside 1..7" */
    private static void addpAndSubp(Attempt attempt) {
        range(attempt, FpuStackTrans.ADDP, 1, 7);
        range(attempt, FpuStackTrans.SUBP, 1, 7);
    }

    /** "JZ, JNEG, JMP: a outside 0..31" */
    private static void jumps(Attempt attempt) {
        range(attempt, FpuStackTrans.JZ, 0, 31);
        range(attempt, FpuStackTrans.JNEG, 0, 31);
        range(attempt, FpuStackTrans.JMP, 0, 31);
    }

    /** "LIT takes any a" */
    private static void lit(Attempt attempt) {
        range(attempt, FpuStackTrans.LIT, Check.MIN, Check.MAX);
    }

    /** "for HALT it plays no part" */
    private static void halt(Attempt attempt) {
        range(attempt, FpuStackTrans.HALT, Check.MIN, Check.MAX);
    }

    private static void range(Attempt attempt, int op, int least, int greatest) {
        for (int a = -40; a <= 40; a++) {
            attempt.make(op, a, a >= least && a <= greatest);
        }
        for (int a : Check.EXTREMES) {
            attempt.make(op, a, a >= least && a <= greatest);
        }
    }
}
