/** The machine of the document's 'Terms', run instruction by instruction on a plain stack. */
final class StackModel {
    final int[] ops = new int[32];
    final int[] numbers = new int[32];
    final int[] cells = new int[8];
    final int[] stack = new int[8]; // stack[0] is the top
    int length = 0;
    int depth = 0;
    int pc = 0;
    int count = 0;
    int status = FpuStackTrans.RUNNING;
    final int[] executedAtDepth = new int[14 * 9]; // how often each operation was executed at each depth

    static boolean refused(int op, int a) {
        switch (op) {
            case 0: case 13:
                return false;
            case 1: case 2: case 3: case 4: case 5: case 6: case 7:
                return a < 0 || a > 7;
            case 8: case 9:
                return a < 1 || a > 7;
            case 10: case 11: case 12:
                return a < 0 || a > 31;
            default:
                return true;
        }
    }

    int emit(int op, int a) {
        if (length == 32) {
            return -2;
        }
        if (refused(op, a)) {
            return -1;
        }
        ops[length] = op;
        numbers[length] = a;
        return ++length;
    }

    int patch(int i, int op, int a) {
        if (i < 0 || i >= length || refused(op, a)) {
            return -1;
        }
        ops[i] = op;
        numbers[i] = a;
        return length;
    }

    boolean poke(int cell, int value) {
        if (cell < 0 || cell > 7) {
            return false;
        }
        cells[cell] = value;
        return true;
    }

    void start() {
        depth = 0;
        pc = 0;
        count = 0;
        status = FpuStackTrans.RUNNING;
    }

    int run(int n) {
        int tries = Math.max(0, Math.min(200, n));
        while (tries-- > 0 && status == FpuStackTrans.RUNNING) {
            tryOne();
        }
        return status;
    }

    int st(int i) {
        return i >= 0 && i < depth ? stack[i] : 0;
    }

    int memory(int cell) {
        return cell >= 0 && cell <= 7 ? cells[cell] : 0;
    }

    private void tryOne() {
        if (pc >= length || faults(ops[pc], numbers[pc])) {
            status = FpuStackTrans.FAULT;
            return;
        }
        count++;
        executedAtDepth[ops[pc] * 9 + depth]++;
        execute(ops[pc], numbers[pc]);
    }

    private boolean faults(int op, int a) {
        boolean pushes = op <= 2;
        boolean popsOrReadsTop = op >= 3 && op <= 11;
        boolean readsSecond = op == 1 || op >= 4 && op <= 9;
        return pushes && depth == 8 || popsOrReadsTop && depth == 0 || readsSecond && a >= depth;
    }

    private void execute(int op, int a) {
        int next = pc + 1;
        int top = stack[0];
        switch (op) {
            case 0: push(a); break;
            case 1: push(stack[a]); break;
            case 2: push(cells[a]); break;
            case 3: cells[a] = top; pop(); break;
            case 4: stack[0] = stack[a]; stack[a] = top; break;
            case 5: stack[0] = top + stack[a]; break;
            case 6: stack[0] = top - stack[a]; break;
            case 7: stack[0] = top * stack[a]; break;
            case 8: stack[a] = stack[a] + top; pop(); break;
            case 9: stack[a] = stack[a] - top; pop(); break;
            case 10: pop(); next = top == 0 ? a : next; break;
            case 11: pop(); next = top < 0 ? a : next; break;
            case 12: next = a; break;
            default: status = FpuStackTrans.HALTED; next = pc; break;
        }
        pc = next;
    }

    private void push(int value) {
        for (int i = depth; i > 0; i--) {
            stack[i] = stack[i - 1];
        }
        stack[0] = value;
        depth++;
    }

    private void pop() {
        depth--;
        for (int i = 0; i < depth; i++) {
            stack[i] = stack[i + 1];
        }
    }
}
