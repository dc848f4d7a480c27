/**
 * A machine that is ready to run, and the counting of answers that are not as due.
 *
 * Descriptors: 1 code and 2 stack of level 0, 3 code and 4 stack of level 3,
 * 5 the busy task that runs, 6 a free task of level 0, 7 data of rank 3.
 * The vectors of all faults lead to level 0, vector v to offset 40 + v.
 */
final class Rig {
    static final int A = 0, B = 1, C = 2, X = 3, SP = 4, IP = 5, FLAGS = 6, LEVEL = 7, HALT = 8;
    static final int NUMBER = 9, CODE = 10, FAULTS = 11;
    static final int CS = 0, DS = 1, ES = 2, SS = 3, TR = 4;
    static final int Z = 1, N = 2, NESTED = 4;

    static final int CODE0 = 200, STACK0 = 270, CODE3 = 320, STACK3 = 390, TASK5 = 440, TASK6 = 490, DATA7 = 540;
    static final int[] FAULT_VECTORS = {6, 8, 10, 11, 12, 13};

    private static int wrong = 0;
    private static int asked = 0;

    final LevelMachine x = new LevelMachine();
    private final String name;
    private final int base;

    private Rig(String name, int level) {
        this.name = name;
        this.base = level == 0 ? CODE0 : CODE3;
        x.describe(1, CODE0, 60, 4, 0, true);
        x.describe(2, STACK0, 40, 2, 0, true);
        x.describe(3, CODE3, 60, 4, 3, true);
        x.describe(4, STACK3, 40, 2, 3, true);
        x.describe(5, TASK5, 40, 8, 0, true);
        x.describe(6, TASK6, 40, 7, 0, true);
        x.describe(7, DATA7, 40, 2, 3, true);
        for (int v : FAULT_VECTORS) {
            x.describe(32 + v, 4, 40 + v, 10, 0, true);
        }
        x.poke(TASK5 + 1, 35);
        x.poke(TASK5 + 2, 8);
        x.force(CS, level == 0 ? 4 : 15);
        x.force(SS, level == 0 ? 8 : 19);
        x.force(TR, 20);
        x.set(SP, 30);
    }

    static Rig level0(String name) {
        return new Rig(name, 0);
    }

    static Rig level3(String name) {
        return new Rig(name, 3);
    }

    static int op(int operation, int r, int q) {
        return 64 * operation + 8 * r + q;
    }

    /** Puts words at the beginning of the code that runs. */
    Rig code(int... words) {
        return memory(base, words);
    }

    Rig memory(int at, int... words) {
        for (int i = 0; i < words.length; i++) {
            if (!x.poke(at + i, words[i])) {
                throw new IllegalStateException("poke " + (at + i));
            }
        }
        return this;
    }

    Rig describe(int k, int first, int second, int kind, int rank, boolean there) {
        if (!x.describe(k, first, second, kind, rank, there)) {
            throw new IllegalStateException("describe " + k);
        }
        return this;
    }

    Rig set(int r, int v) {
        if (!x.set(r, v)) {
            throw new IllegalStateException("set " + r);
        }
        return this;
    }

    Rig force(int q, int s) {
        if (!x.force(q, s)) {
            throw new IllegalStateException("force " + q);
        }
        return this;
    }

    /** One instruction that does not fault. */
    Rig goes() {
        due(name + ": step(1)", x.step(1), 1);
        due(name + ": faults", x.state(FAULTS), 0);
        return this;
    }

    /** One instruction that faults, the fault being delivered at level 0. */
    Rig faults(int number, int code) {
        int ip = x.state(IP);
        int selector = x.segment(CS, 0);
        int before = x.state(FAULTS);
        due(name + ": step(1)", x.step(1), 1);
        due(name + ": number", x.state(NUMBER), number);
        due(name + ": code", x.state(CODE), code);
        due(name + ": faults", x.state(FAULTS), before + 1);
        due(name + ": IP of the handler", x.state(IP), 40 + number);
        due(name + ": level of the handler", x.state(LEVEL), 0);
        int top = x.segment(SS, 1) + x.state(SP);
        due(name + ": pushed code", x.peek(top), code);
        due(name + ": pushed IP", x.peek(top + 1), ip);
        due(name + ": pushed CS", x.peek(top + 2), selector);
        return this;
    }

    /** One instruction that faults, the fault being delivered anywhere. */
    Rig raises(int number, int code) {
        due(name + ": step(1)", x.step(1), 1);
        due(name + ": number", x.state(NUMBER), number);
        due(name + ": code", x.state(CODE), code);
        due(name + ": faults", x.state(FAULTS), 1);
        return this;
    }

    /** One instruction whose fault can't be delivered, fault 8 being delivered in its place. */
    Rig doubles() {
        due(name + ": step(1)", x.step(1), 1);
        due(name + ": number", x.state(NUMBER), 8);
        due(name + ": code", x.state(CODE), 0);
        due(name + ": faults", x.state(FAULTS), 2);
        due(name + ": IP of the handler", x.state(IP), 48);
        return this;
    }

    Rig state(int what, int want) {
        due(name + ": state(" + what + ")", x.state(what), want);
        return this;
    }

    Rig segment(int q, int what, int want) {
        due(name + ": segment(" + q + ", " + what + ")", x.segment(q, what), want);
        return this;
    }

    /** What segment q holds, in the order of segment's second argument. */
    Rig holds(int q, int... want) {
        for (int what = 0; what < want.length; what++) {
            segment(q, what, want[what]);
        }
        return this;
    }

    /** The words of the memory from at on. */
    Rig lies(int at, int... want) {
        for (int i = 0; i < want.length; i++) {
            due(name + ": peek(" + (at + i) + ")", x.peek(at + i), want[i]);
        }
        return this;
    }

    static void due(String call, boolean got, boolean want) {
        due(call, got ? 1 : 0, want ? 1 : 0);
    }

    static void due(String call, long got, long want) {
        asked++;
        if (got != want) {
            wrong++;
            System.out.println(call + " answered " + got + ", due is " + want);
        }
    }

    static void finish() {
        System.out.println(wrong == 0 ? asked + " answers are as due" : wrong + " of " + asked + " answers are not as due");
        if (wrong != 0) {
            System.exit(1);
        }
    }
}
