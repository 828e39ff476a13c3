/** Promise 12: a call that is refused changes nothing: no value, no instruction, whatever the status. */
public final class Promise12RefusalsTest {
    private static final Check check = new Check();

    /** A call that is refused on an object with at least one instruction. */
    private interface Refusal {
        void make(String when, FpuStackTrans x);
    }

    /** "by a code below 0 that is named": emit's BAD, or its FULL if there is no room */
    private static void emits(String when, FpuStackTrans x, int want) {
        check.due(when + ": emit(-1, 1)", x.emit(-1, 1), want);
        check.due(when + ": emit(14, 1)", x.emit(14, 1), want);
        for (int op = FpuStackTrans.DUP; op <= FpuStackTrans.JMP; op++) {
            check.due(when + ": emit(" + op + ", -1)", x.emit(op, -1), want);
            check.due(when + ": emit(" + op + ", 32)", x.emit(op, 32), want);
        }
    }

    private static void emitsWithRoom(String when, FpuStackTrans x) {
        emits(when, x, FpuStackTrans.BAD);
    }

    /** Those that would be taken with room, too. */
    private static void emitsWithoutRoom(String when, FpuStackTrans x) {
        emits(when, x, FpuStackTrans.FULL);
        for (int op = FpuStackTrans.LIT; op <= FpuStackTrans.HALT; op++) {
            check.due(when + ": emit(" + op + ", 1)", x.emit(op, 1), FpuStackTrans.FULL);
        }
    }

    /** "by a code below 0 that is named": patch's BAD */
    private static void patches(String when, FpuStackTrans x) {
        int[] noInstructions = {Check.MIN, -1, 32, Check.MAX};
        for (int i : noInstructions) {
            check.due(when + ": patch(" + i + ", HALT, 0)", x.patch(i, FpuStackTrans.HALT, 0), FpuStackTrans.BAD);
        }
        check.due(when + ": patch(0, -1, 1)", x.patch(0, -1, 1), FpuStackTrans.BAD);
        check.due(when + ": patch(0, 14, 1)", x.patch(0, 14, 1), FpuStackTrans.BAD);
        for (int op = FpuStackTrans.DUP; op <= FpuStackTrans.JMP; op++) {
            check.due(when + ": patch(0, " + op + ", -1)", x.patch(0, op, -1), FpuStackTrans.BAD);
            check.due(when + ": patch(0, " + op + ", 32)", x.patch(0, op, 32), FpuStackTrans.BAD);
        }
    }

    /** "or by false": poke's */
    private static void pokes(String when, FpuStackTrans x) {
        int[] noCells = {Check.MIN, -1, 8, 9, Check.MAX};
        for (int cell : noCells) {
            check.due(when + ": poke(" + cell + ", 1)", x.poke(cell, 1), false);
        }
    }

    /** LIT 6, STORE 2, LIT 5, then a jump to the next again and again, and an operation at the end. */
    private static FpuStackTrans programOf(int length, int last) {
        FpuStackTrans x = Check.program(FpuStackTrans.LIT, 6, FpuStackTrans.STORE, 2, FpuStackTrans.LIT, 5);
        for (int i = 3; i < length - 1; i++) {
            x.emit(FpuStackTrans.JMP, i + 1);
        }
        x.emit(last, 1);
        x.poke(7, -7);
        return x;
    }

    /** Beside a twin that meets no refusal, after some steps and then from the start again. */
    private static void changesNothing(String what, Refusal refusal, int length, int last, int steps) {
        FpuStackTrans x = programOf(length, last);
        FpuStackTrans twin = programOf(length, last);
        x.run(steps);
        twin.run(steps);
        String when = what + " after " + steps + " of " + length + " with " + last + " at the end";
        refusal.make(when, x);
        check.same(when, x, twin);
        check.sameFromTheStart(when, x, twin, 3);
        check.due(when + ": run(200)", x.run(200), twin.run(200));
        check.same(when + ": at the end", x, twin);
        int emitted = length == 32 ? FpuStackTrans.FULL : length + 1;
        check.due(when + ": emit(LIT, 0)", x.emit(FpuStackTrans.LIT, 0), emitted);
    }

    /** At once, while RUNNING, and when HALTED or in FAULT, which is what HALT and ADD 1 lead to. */
    private static void inEveryStatus(String what, Refusal refusal, int length) {
        int[] steps = {0, 3, 200};
        for (int count : steps) {
            changesNothing(what, refusal, length, FpuStackTrans.HALT, count);
            changesNothing(what, refusal, length, FpuStackTrans.ADD, count);
        }
    }

    private static void refusedEmits() {
        inEveryStatus("emit", Promise12RefusalsTest::emitsWithRoom, 12);
        inEveryStatus("emit", Promise12RefusalsTest::emitsWithRoom, 31);
        inEveryStatus("emit", Promise12RefusalsTest::emitsWithoutRoom, 32);
    }

    private static void refusedPatches() {
        inEveryStatus("patch", Promise12RefusalsTest::patches, 12);
        inEveryStatus("patch", Promise12RefusalsTest::patches, 32);
    }

    private static void refusedPokes() {
        inEveryStatus("poke", Promise12RefusalsTest::pokes, 12);
        inEveryStatus("poke", Promise12RefusalsTest::pokes, 32);
    }

    private static void onANewObject() {
        FpuStackTrans x = new FpuStackTrans();
        emitsWithRoom("new", x);
        patches("new", x);
        pokes("new", x);
        check.state("refused when new", x, FpuStackTrans.RUNNING, 0, 0);
        check.memory("refused when new", x);
        check.due("first emit after refusals", x.emit(FpuStackTrans.HALT, 0), 1);
    }

    public static void main(String[] args) {
        refusedEmits();
        refusedPatches();
        refusedPokes();
        onANewObject();
        check.end();
    }
}
