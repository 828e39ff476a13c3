/** Long mixed runs of calls, held call by call against a plain interpreter of the document's 'Terms'. */
public final class ModelTest {
    private static final int RUNS = 5000;
    private static final int CALLS = 512;

    private static final Check check = new Check();
    private static long seed = 20240607L;

    // A fixed sequence, so that every run of the tests makes the same calls.
    private static int pick(int bound) {
        seed = seed * 6364136223846793005L + 1442695040888963407L;
        return (int) ((seed >>> 33) % bound);
    }

    private static int anyNumber() {
        switch (pick(6)) {
            case 0:
                return Check.EXTREMES[pick(Check.EXTREMES.length)];
            case 1:
                return pick(50) - 10;
            default:
                return pick(9) - 1;
        }
    }

    private static int value() {
        return pick(3) == 0 ? anyNumber() * 65539 : pick(7) - 3;
    }

    /** Mostly an operation that fits the depth. */
    private static int operation(int depth) {
        if (pick(20) == 0) {
            return pick(18) - 2;
        }
        if (depth < 2 || depth < 7 && pick(4) == 0) {
            return pick(3);
        }
        return depth == 8 ? 3 + pick(10) : pick(14);
    }

    private static int numberFor(int op, StackModel model) {
        if (op == FpuStackTrans.LIT) {
            return value();
        }
        if (pick(20) == 0) {
            return anyNumber();
        }
        if (op >= FpuStackTrans.JZ) {
            return pick(model.length + 1);
        }
        if (op == FpuStackTrans.LOAD || op == FpuStackTrans.STORE || model.depth == 0) {
            return pick(8);
        }
        return pick(model.depth);
    }

    private static void emitBoth(String run, FpuStackTrans x, StackModel model) {
        int op = operation(model.depth);
        int a = numberFor(op, model);
        check.due(run + "emit(" + op + ", " + a + ")", x.emit(op, a), model.emit(op, a));
    }

    private static void patchBoth(String run, FpuStackTrans x, StackModel model) {
        int i = pick(10) == 0 ? anyNumber() : model.pc;
        int op = operation(model.depth);
        int a = numberFor(op, model);
        check.due(run + "patch(" + i + ", " + op + ", " + a + ")", x.patch(i, op, a), model.patch(i, op, a));
    }

    private static void pokeBoth(String run, FpuStackTrans x, StackModel model) {
        int cell = anyNumber();
        int value = value();
        check.due(run + "poke(" + cell + ", " + value + ")", x.poke(cell, value), model.poke(cell, value));
    }

    private static void runBoth(String run, FpuStackTrans x, StackModel model) {
        int n = pick(20) == 0 ? anyNumber() * 20 : pick(10) == 0 ? 2 : 1;
        check.due(run + "run(" + n + ")", x.run(n), model.run(n));
    }

    private static void startBoth(FpuStackTrans x, StackModel model) {
        x.start();
        model.start();
    }

    private static void lookAtBoth(String run, FpuStackTrans x, StackModel model) {
        int i = anyNumber();
        check.due(run + "place()", x.place(), model.pc);
        check.due(run + "executed()", x.executed(), model.count);
        check.due(run + "depth()", x.depth(), model.depth);
        check.due(run + "st(" + i + ")", x.st(i), model.st(i));
        check.due(run + "memory(" + i + ")", x.memory(i), model.memory(i));
    }

    /** An instruction that mostly fits, put where it is tried next, so that the runs get far before they fault. */
    private static void stepBoth(String run, FpuStackTrans x, StackModel model) {
        if (model.pc == model.length) {
            emitBoth(run, x, model);
        } else {
            patchBoth(run, x, model);
        }
        runBoth(run, x, model);
    }

    private static void changeBoth(String run, FpuStackTrans x, StackModel model) {
        boolean stopped = model.status != FpuStackTrans.RUNNING;
        int kind = pick(stopped ? 40 : 21);
        if (kind < 14) {
            stepBoth(run, x, model);
        } else if (kind < 16) {
            emitBoth(run, x, model);
        } else if (kind < 17) {
            patchBoth(run, x, model);
        } else if (kind < 19) {
            pokeBoth(run, x, model);
        } else if (kind < 20) {
            runBoth(run, x, model);
        } else if (stopped || pick(10) == 0) {
            startBoth(x, model);
        }
    }

    private static void wholeState(String run, FpuStackTrans x, StackModel model) {
        int[] stack = new int[model.depth];
        System.arraycopy(model.stack, 0, stack, 0, model.depth);
        check.state(run, x, model.status, model.pc, model.count, stack);
        check.memory(run, x, model.cells);
    }

    /** Every operation must have been executed at every depth at which it can be, else the runs prove too little. */
    private static void theRunsReachEverything(int[] executedAtDepth) {
        for (int op = FpuStackTrans.LIT; op <= FpuStackTrans.HALT; op++) {
            int least = op <= FpuStackTrans.LOAD && op != FpuStackTrans.DUP || op >= FpuStackTrans.JMP ? 0 : 1;
            if (op == FpuStackTrans.ADDP || op == FpuStackTrans.SUBP) {
                least = 2;
            }
            for (int depth = least; depth <= (op <= FpuStackTrans.LOAD ? 7 : 8); depth++) {
                boolean reached = executedAtDepth[op * 9 + depth] > 0;
                check.due("operation " + op + " reached at depth " + depth, reached, true);
            }
        }
    }

    public static void main(String[] args) {
        int[] executedAtDepth = new int[14 * 9];
        for (int r = 0; r < RUNS; r++) {
            FpuStackTrans x = new FpuStackTrans();
            StackModel model = new StackModel();
            String run = "run " + r + ": ";
            // At most seven calls a turn, and the look at the whole state at the end takes 20.
            for (int calls = 0; calls + 27 <= CALLS; calls += 7) {
                changeBoth(run, x, model);
                lookAtBoth(run, x, model);
            }
            wholeState(run, x, model);
            for (int k = 0; k < executedAtDepth.length; k++) {
                executedAtDepth[k] += model.executedAtDepth[k];
            }
        }
        theRunsReachEverything(executedAtDepth);
        check.end();
    }
}
