/**
 * A machine with a register stack, run by translation to flat registers.
 *
 * The value st(i) at depth d lives in flat register d - 1 - i. So once the depth is known, a stack instruction names
 * fixed registers, and whether it faults is known too. Each instruction is translated when it is put into the program,
 * once for every depth it may meet; only the translations are kept and run.
 */
public final class FpuStackTrans {
    public static final int LIT = 0;
    public static final int DUP = 1;
    public static final int LOAD = 2;
    public static final int STORE = 3;
    public static final int XCH = 4;
    public static final int ADD = 5;
    public static final int SUB = 6;
    public static final int MUL = 7;
    public static final int ADDP = 8;
    public static final int SUBP = 9;
    public static final int JZ = 10;
    public static final int JNEG = 11;
    public static final int JMP = 12;
    public static final int HALT = 13;
    public static final int RUNNING = 0;
    public static final int HALTED = 1;
    public static final int FAULT = 2;
    public static final int BAD = -1;
    public static final int FULL = -2;

    private static final int STACK_SIZE = 8;
    private static final int MEMORY_SIZE = 8;
    private static final int PROGRAM_SIZE = 32;
    private static final int RUN_LIMIT = 200;

    // One translation for each depth from 0 to STACK_SIZE, so PROGRAM_SIZE * DEPTHS in all.
    private static final int DEPTHS = 9;
    private static final int FLAT_SIZE = 288;

    // The operations of the flat machine: 'to' and 'from' name registers where nothing else is said.
    private static final int FLAT_FAULT = 0;
    private static final int FLAT_SET = 1;         // from is the number itself
    private static final int FLAT_COPY = 2;
    private static final int FLAT_FETCH = 3;       // from is a memory cell
    private static final int FLAT_KEEP = 4;        // to is a memory cell
    private static final int FLAT_SWAP = 5;
    private static final int FLAT_ADD = 6;
    private static final int FLAT_SUB = 7;
    private static final int FLAT_MUL = 8;
    private static final int FLAT_IF_ZERO = 9;     // to is a place
    private static final int FLAT_IF_NEGATIVE = 10; // to is a place
    private static final int FLAT_GO = 11;         // to is a place
    private static final int FLAT_HALT = 12;

    private final int[] registers = new int[STACK_SIZE];
    private final int[] cells = new int[MEMORY_SIZE];

    // The translation of instruction i for depth d stands at i * DEPTHS + d.
    private final int[] flatOp = new int[FLAT_SIZE];
    private final int[] flatTo = new int[FLAT_SIZE];
    private final int[] flatFrom = new int[FLAT_SIZE];
    private final int[] flatDepthAfter = new int[FLAT_SIZE];

    private int programLength;
    private int stackDepth;
    private int pc;
    private int executedCount;
    private int status;

    public FpuStackTrans() {
        programLength = 0;
        stackDepth = 0;
        pc = 0;
        executedCount = 0;
        status = RUNNING;
    }

    public int emit(int op, int a) {
        if (programLength >= PROGRAM_SIZE) {
            return FULL;
        }
        if (!isInstruction(op, a)) {
            return BAD;
        }
        translate(programLength, op, a);
        programLength++;
        return programLength;
    }

    public int patch(int i, int op, int a) {
        if (i < 0 || i >= programLength || !isInstruction(op, a)) {
            return BAD;
        }
        translate(i, op, a);
        return programLength;
    }

    public boolean poke(int cell, int value) {
        if (!isCell(cell)) {
            return false;
        }
        cells[cell] = value;
        return true;
    }

    public void start() {
        stackDepth = 0;
        pc = 0;
        executedCount = 0;
        status = RUNNING;
    }

    public int run(int n) {
        int tries = n > RUN_LIMIT ? RUN_LIMIT : n;
        for (int done = 0; done < tries && status == RUNNING; done++) {
            tryInstruction();
        }
        return status;
    }

    public int depth() {
        return stackDepth;
    }

    public int st(int i) {
        if (i < 0 || i >= stackDepth) {
            return 0;
        }
        return registers[stackDepth - 1 - i];
    }

    public int memory(int cell) {
        return isCell(cell) ? cells[cell] : 0;
    }

    public int place() {
        return pc;
    }

    public int executed() {
        return executedCount;
    }

    private static boolean isCell(int cell) {
        return cell >= 0 && cell < MEMORY_SIZE;
    }

    private static boolean isInstruction(int op, int a) {
        if (op < LIT || op > HALT) {
            return false;
        }
        if (op == LIT || op == HALT) {
            return true;
        }
        if (op <= MUL) {
            return a >= 0 && a < STACK_SIZE;
        }
        if (op <= SUBP) {
            return a >= 1 && a < STACK_SIZE;
        }
        return a >= 0 && a < PROGRAM_SIZE;
    }

    private void translate(int i, int op, int a) {
        for (int d = 0; d < DEPTHS; d++) {
            translateForDepth(i * DEPTHS + d, d, op, a);
        }
    }

    private void translateForDepth(int slot, int d, int op, int a) {
        int depthAfter = d + growth(op);
        if (d < valuesNeeded(op, a) || depthAfter > STACK_SIZE) {
            flatOp[slot] = FLAT_FAULT;
            return;
        }
        flatOp[slot] = flatOperation(op);
        flatTo[slot] = flatTarget(d, op, a);
        flatFrom[slot] = flatSource(d, op, a);
        flatDepthAfter[slot] = depthAfter;
    }

    private static int growth(int op) {
        switch (op) {
            case LIT:
            case DUP:
            case LOAD:
                return 1;
            case STORE:
            case ADDP:
            case SUBP:
            case JZ:
            case JNEG:
                return -1;
            default:
                return 0;
        }
    }

    private static int valuesNeeded(int op, int a) {
        switch (op) {
            case LIT:
            case LOAD:
            case JMP:
            case HALT:
                return 0;
            case STORE:
            case JZ:
            case JNEG:
                return 1;
            default:
                return a + 1;
        }
    }

    private static int flatOperation(int op) {
        switch (op) {
            case LIT:
                return FLAT_SET;
            case DUP:
                return FLAT_COPY;
            case LOAD:
                return FLAT_FETCH;
            case STORE:
                return FLAT_KEEP;
            case XCH:
                return FLAT_SWAP;
            case ADD:
            case ADDP:
                return FLAT_ADD;
            case SUB:
            case SUBP:
                return FLAT_SUB;
            case MUL:
                return FLAT_MUL;
            case JZ:
                return FLAT_IF_ZERO;
            case JNEG:
                return FLAT_IF_NEGATIVE;
            case JMP:
                return FLAT_GO;
            default:
                return FLAT_HALT;
        }
    }

    private static int flatTarget(int d, int op, int a) {
        switch (op) {
            case LIT:
            case DUP:
            case LOAD:
                return d;
            case XCH:
            case ADD:
            case SUB:
            case MUL:
                return d - 1;
            case ADDP:
            case SUBP:
                return d - 1 - a;
            default:
                return a;
        }
    }

    private static int flatSource(int d, int op, int a) {
        switch (op) {
            case LIT:
            case LOAD:
                return a;
            case DUP:
            case XCH:
            case ADD:
            case SUB:
            case MUL:
                return d - 1 - a;
            default:
                return d - 1;
        }
    }

    private void tryInstruction() {
        if (pc >= programLength) {
            status = FAULT;
            return;
        }
        int slot = pc * DEPTHS + stackDepth;
        int op = flatOp[slot];
        if (op == FLAT_FAULT) {
            status = FAULT;
            return;
        }
        if (op >= FLAT_IF_ZERO) {
            steer(op, flatTo[slot], flatFrom[slot]);
        } else {
            compute(op, flatTo[slot], flatFrom[slot]);
            pc++;
        }
        stackDepth = flatDepthAfter[slot];
        executedCount++;
    }

    private void compute(int op, int to, int from) {
        switch (op) {
            case FLAT_SET:
                registers[to] = from;
                break;
            case FLAT_COPY:
                registers[to] = registers[from];
                break;
            case FLAT_FETCH:
                registers[to] = cells[from];
                break;
            case FLAT_KEEP:
                cells[to] = registers[from];
                break;
            case FLAT_SWAP:
                swap(to, from);
                break;
            case FLAT_ADD:
                registers[to] += registers[from];
                break;
            case FLAT_SUB:
                registers[to] -= registers[from];
                break;
            default:
                registers[to] *= registers[from];
                break;
        }
    }

    private void swap(int to, int from) {
        int kept = registers[to];
        registers[to] = registers[from];
        registers[from] = kept;
    }

    private void steer(int op, int to, int from) {
        switch (op) {
            case FLAT_IF_ZERO:
                pc = registers[from] == 0 ? to : pc + 1;
                break;
            case FLAT_IF_NEGATIVE:
                pc = registers[from] < 0 ? to : pc + 1;
                break;
            case FLAT_GO:
                pc = to;
                break;
            default:
                status = HALTED;
                break;
        }
    }
}
