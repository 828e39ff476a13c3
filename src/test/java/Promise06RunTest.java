/** Promise 6: run tries at most n instructions, n clamped into 0..200, while the status is RUNNING. */
public final class Promise06RunTest {
    private static final Check check = new Check();

    private static void clamping(int n, int tries) {
        FpuStackTrans x = Check.program(FpuStackTrans.JMP, 1, FpuStackTrans.JMP, 2, FpuStackTrans.JMP, 0);
        check.due("run(" + n + ")", x.run(n), FpuStackTrans.RUNNING);
        check.state("run(" + n + ")", x, FpuStackTrans.RUNNING, tries % 3, tries);
    }

    /** "n is clamped into 0..200": what is inside stays as it is */
    private static void inside() {
        for (int n = 0; n <= 200; n++) {
            clamping(n, n);
        }
    }

    /** "n is clamped into 0..200": what is too small becomes 0 */
    private static void tooSmall() {
        int[] below = {-1, -2, -200, -201, Check.MIN + 1, Check.MIN};
        for (int n : below) {
            clamping(n, 0);
        }
    }

    /** "n is clamped into 0..200": what is too large becomes 200 */
    private static void tooLarge() {
        int[] above = {201, 202, 255, 256, 257, 400, 1000, 65536, Check.MAX};
        for (int n : above) {
            clamping(n, 200);
        }
    }

    /** A program that comes to its end at that try, after 49 rounds of four instructions: the 198th or a later one. */
    private static FpuStackTrans endsAtTry(int tries) {
        int padding = tries - 198;
        FpuStackTrans x = Check.jumps(padding);
        x.emit(FpuStackTrans.LIT, -49);
        x.emit(FpuStackTrans.LIT, 1);
        x.emit(FpuStackTrans.ADDP, 1);
        x.emit(FpuStackTrans.DUP, 0);
        x.emit(FpuStackTrans.JNEG, padding + 1);
        return x;
    }

    /** "n times": a halt at the 200th try belongs to the longest run, one at the 201st doesn't */
    private static void theLastTryHalts() {
        int[] longRuns = {200, 201, Check.MAX};
        for (int n : longRuns) {
            for (int tries = 199; tries <= 202; tries++) {
                FpuStackTrans x = endsAtTry(tries);
                x.emit(FpuStackTrans.HALT, 0);
                String when = "run(" + n + ") with a halt at try " + tries;
                check.due(when, x.run(n), tries <= 200 ? FpuStackTrans.HALTED : FpuStackTrans.RUNNING);
                check.due(when + ": executed()", x.executed(), tries <= 200 ? tries : 200);
                check.due(when + ", then run(2)", x.run(2), FpuStackTrans.HALTED);
                check.state(when + ", then run(2)", x, FpuStackTrans.HALTED, tries - 198 + 5, tries, 0);
            }
        }
    }

    /** "n times": a fault is a try too, though it isn't counted as executed */
    private static void theLastTryFaults() {
        for (int tries = 199; tries <= 202; tries++) {
            FpuStackTrans x = endsAtTry(tries);
            String when = "run(200) with a fault at try " + tries;
            check.due(when, x.run(200), tries <= 200 ? FpuStackTrans.FAULT : FpuStackTrans.RUNNING);
            check.due(when + ": executed()", x.executed(), tries <= 200 ? tries - 1 : 200);
            check.due(when + ", then run(2)", x.run(2), FpuStackTrans.FAULT);
            check.state(when + ", then run(2)", x, FpuStackTrans.FAULT, tries - 198 + 5, tries - 1, 0);
        }
    }

    /** "as long as the status is RUNNING": else no n tries anything, though there is an instruction that could be. */
    private static void aStatusThatIsNotRunning(int op, int status) {
        int[] lengths = {Check.MIN, -1, 0, 1, 2, 199, 200, 201, Check.MAX};
        for (int n : lengths) {
            FpuStackTrans x = Check.program(FpuStackTrans.LIT, 4, op, 3, FpuStackTrans.STORE, 2);
            check.due("run(2) to status " + status, x.run(2), status);
            int executed = x.executed();
            x.patch(1, FpuStackTrans.STORE, 2);
            check.due("run(" + n + ") in status " + status, x.run(n), status);
            check.state("run(" + n + ") in status " + status, x, status, 1, executed, 4);
            check.memory("run(" + n + ") in status " + status, x);
        }
    }

    private static void aHaltStopsTheRun() {
        FpuStackTrans x = Check.program(FpuStackTrans.LIT, 1, FpuStackTrans.HALT, 9, FpuStackTrans.LIT, 2);
        check.due("run(1) before the halt", x.run(1), FpuStackTrans.RUNNING);
        check.due("run(1) of the halt", x.run(1), FpuStackTrans.HALTED);
        check.state("halted", x, FpuStackTrans.HALTED, 1, 2, 1);
        check.due("run(200) after the halt", x.run(200), FpuStackTrans.HALTED);
        check.due("run(-1) after the halt", x.run(-1), FpuStackTrans.HALTED);
        check.state("halted, run again", x, FpuStackTrans.HALTED, 1, 2, 1);
    }

    private static void aFaultStopsTheRun() {
        FpuStackTrans x = Check.program(FpuStackTrans.LIT, 1, FpuStackTrans.STORE, 0, FpuStackTrans.STORE, 0);
        check.due("run(2) before the fault", x.run(2), FpuStackTrans.RUNNING);
        check.due("run(0) before the fault", x.run(0), FpuStackTrans.RUNNING);
        check.due("run(1) of the fault", x.run(1), FpuStackTrans.FAULT);
        check.state("fault", x, FpuStackTrans.FAULT, 2, 2);
        x.patch(2, FpuStackTrans.LIT, 1);
        check.due("run(200) after the fault", x.run(200), FpuStackTrans.FAULT);
        check.state("fault, run again", x, FpuStackTrans.FAULT, 2, 2);
        check.memory("fault", x, 1);
    }

    /** Counts 5 down to 0 and adds up what it meets. */
    private static FpuStackTrans countdown() {
        return Check.program(FpuStackTrans.LIT, 0, FpuStackTrans.LIT, 5,
            FpuStackTrans.DUP, 0, FpuStackTrans.ADDP, 2, FpuStackTrans.LIT, -1, FpuStackTrans.ADDP, 1,
            FpuStackTrans.DUP, 0, FpuStackTrans.JZ, 9, FpuStackTrans.JMP, 2, FpuStackTrans.HALT, 0);
    }

    private static void twoShortRunsAreOneLong() {
        for (int first = 0; first <= 40; first++) {
            FpuStackTrans x = countdown();
            check.due("run(" + first + ")", x.run(first), first < 37 ? FpuStackTrans.RUNNING : FpuStackTrans.HALTED);
            check.due("run(" + first + "), then run(200)", x.run(200), FpuStackTrans.HALTED);
            check.state("countdown cut at " + first, x, FpuStackTrans.HALTED, 9, 37, 0, 15);
        }
    }

    public static void main(String[] args) {
        inside();
        tooSmall();
        tooLarge();
        theLastTryHalts();
        theLastTryFaults();
        aStatusThatIsNotRunning(FpuStackTrans.HALT, FpuStackTrans.HALTED);
        aStatusThatIsNotRunning(FpuStackTrans.ADD, FpuStackTrans.FAULT);
        aHaltStopsTheRun();
        aFaultStopsTheRun();
        twoShortRunsAreOneLong();
        check.end();
    }
}
