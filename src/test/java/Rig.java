import java.io.IOException;
import java.nio.file.Files;
import java.nio.file.Path;
import java.util.function.Supplier;

/**
 * A machine that is ready to run, and the counting of answers that are not as due.
 *
 * Descriptors: 1 code and 2 stack of level 0, 3 code and 4 stack of level 3,
 * 5 the busy task that runs, 6 a free task of level 0, 7 data of rank 3.
 * The vectors of all faults lead to level 0, vector v to offset 40 + v.
 *
 * 28 to 30 and the words 610 to 634 are kept for the task that faulty() has
 * take the faults.
 */
final class Rig {
    static final int A = 0, B = 1, C = 2, X = 3, SP = 4, IP = 5, FLAGS = 6, LEVEL = 7, HALT = 8;
    static final int NUMBER = 9, CODE = 10, FAULTS = 11;
    static final int CS = 0, DS = 1, ES = 2, SS = 3, TR = 4;
    static final int Z = 1, N = 2, NESTED = 4;

    static final int CODE0 = 200, STACK0 = 270, CODE3 = 320, STACK3 = 390, TASK5 = 440, TASK6 = 490, DATA7 = 540;
    static final int[] FAULT_VECTORS = {6, 8, 10, 11, 12, 13};

    private static final int HANDLER_STACK = 628, HANDLER_CODE = 634, HANDLER_TASK = 610;
    private static final int HALF = 320;
    private static final String DOCUMENT = document();

    private static int wrong = 0;
    private static int asked = 0;
    private static String sentence = "";

    final LevelMachine x = new LevelMachine();
    private final String name;
    private final int base;

    private Rig(String name, int level) {
        this.name = name;
        this.base = level == 3 ? CODE3 : CODE0;
        x.describe(1, CODE0, 60, 4, 0, true);
        x.describe(2, STACK0, 40, 2, 0, true);
        x.describe(3, CODE3, 60, 4, 3, true);
        x.describe(4, STACK3, 40, 2, 3, true);
        x.describe(5, TASK5, 40, 8, 0, true);
        x.describe(6, TASK6, 40, 7, 0, true);
        x.describe(7, DATA7, 40, 2, 3, true);
        for (int v : FAULT_VECTORS) {
            x.describe(32 + v, 4, 40 + v, 10, 0, true);
        }
        x.poke(TASK5 + 1, 35);
        x.poke(TASK5 + 2, 8);
        x.force(CS, level == 3 ? 15 : 4 + level);
        x.force(SS, level == 0 ? 8 : 19);
        x.force(TR, 20);
        x.set(SP, 30);
    }

    static Rig level0(String name) {
        return new Rig(name, 0);
    }

    static Rig level3(String name) {
        return new Rig(name, 3);
    }

    /** Levels 1 and 2 run the code of level 0 on the stack of level 3, which only force can bring about. */
    static Rig at(int level, String name) {
        return new Rig(name, level);
    }

    /** What is asked from here on holds this sentence, which must stand in the document word for word. */
    static void sentence(String words) {
        sentence = words;
        due("the sentence stands in the document", DOCUMENT.isEmpty() || DOCUMENT.contains(words), true);
    }

    private static String document() {
        try {
            return Files.readString(Path.of("../shared/DOC.md"));
        } catch (IOException e) {
            return "";
        }
    }

    static int op(int operation, int r, int q) {
        return 64 * operation + 8 * r + q;
    }

    /** Puts words at the beginning of the code that runs. */
    Rig code(int... words) {
        return memory(base, words);
    }

    Rig memory(int at, int... words) {
        for (int i = 0; i < words.length; i++) {
            if (!x.poke(at + i, words[i])) {
                throw new IllegalStateException("poke " + (at + i));
            }
        }
        return this;
    }

    Rig describe(int k, int first, int second, int kind, int rank, boolean there) {
        if (!x.describe(k, first, second, kind, rank, there)) {
            throw new IllegalStateException("describe " + k);
        }
        return this;
    }

    Rig set(int r, int v) {
        if (!x.set(r, v)) {
            throw new IllegalStateException("set " + r);
        }
        return this;
    }

    Rig force(int q, int s) {
        if (!x.force(q, s)) {
            throw new IllegalStateException("force " + q);
        }
        return this;
    }

    /** One instruction that does not fault. */
    Rig goes() {
        due(name + ": step(1)", x.step(1), 1);
        due(name + ": faults", x.state(FAULTS), 0);
        return this;
    }

    /** One instruction that faults, the fault being delivered at level 0. */
    Rig faults(int number, int code) {
        int ip = x.state(IP);
        int selector = x.segment(CS, 0);
        int before = x.state(FAULTS);
        due(name + ": step(1)", x.step(1), 1);
        due(name + ": number", x.state(NUMBER), number);
        due(name + ": code", x.state(CODE), code);
        due(name + ": faults", x.state(FAULTS), before + 1);
        due(name + ": IP of the handler", x.state(IP), 40 + number);
        due(name + ": level of the handler", x.state(LEVEL), 0);
        int top = x.segment(SS, 1) + x.state(SP);
        due(name + ": pushed code", x.peek(top), code);
        due(name + ": pushed IP", x.peek(top + 1), ip);
        due(name + ": pushed CS", x.peek(top + 2), selector);
        return this;
    }

    /** One instruction that faults, the fault being delivered anywhere. */
    Rig raises(int number, int code) {
        due(name + ": step(1)", x.step(1), 1);
        due(name + ": number", x.state(NUMBER), number);
        due(name + ": code", x.state(CODE), code);
        due(name + ": faults", x.state(FAULTS), 1);
        return this;
    }

    /** One instruction whose fault can't be delivered, fault 8 being delivered in its place. */
    Rig doubles() {
        due(name + ": step(1)", x.step(1), 1);
        due(name + ": number", x.state(NUMBER), 8);
        due(name + ": code", x.state(CODE), 0);
        due(name + ": faults", x.state(FAULTS), 2);
        due(name + ": IP of the handler", x.state(IP), 48);
        return this;
    }

    /**
     * One instruction that faults: a task of its own takes the fault (or easy
     * code, if there is no task to switch from), and sees all as it was before;
     * and all is as it was if there is nothing that takes it.
     */
    static void faulty(int number, int code, Supplier<Rig> maker) {
        Rig rig = maker.get();
        if (rig.x.segment(TR, 3) != 0) {
            rig.handlers(120, 9).takenByTask(number, code);
        } else {
            rig.handlers(116, 10).takenByEasyCode(number, code);
        }
        staysAsItWas(maker);
    }

    /** Makes every vector of a fault a gate of this kind to first. */
    private Rig handlers(int first, int kind) {
        describe(28, HANDLER_STACK, 5, 2, 0, true).describe(29, HANDLER_CODE, 0, 5, 0, true);
        describe(30, HANDLER_TASK, 17, 7, 0, true).memory(HANDLER_TASK + 7, 0, 0, 0, 0, 0, 0, 6, 116, 0, 0, 112);
        for (int v : FAULT_VECTORS) {
            describe(32 + v, first, 0, kind, 0, true);
        }
        return this;
    }

    private void takenByTask(int number, int code) {
        int[] what = {IP, FLAGS, A, B, C, X, SP};
        int[] saved = new int[11];
        for (int i = 0; i < 7; i++) {
            saved[i] = x.state(what[i]);
        }
        for (int q = CS; q <= SS; q++) {
            saved[7 + q] = x.segment(q, 0);
        }
        int task = x.segment(TR, 0);
        int at = x.segment(TR, 1);
        int limit = x.segment(TR, 2);
        raises(number, code);
        holds(TR, 120, HANDLER_TASK, 17, 8, 0).lies(HANDLER_TASK, task).state(FLAGS, NESTED);
        state(SP, 5).lies(HANDLER_STACK + 5, code);
        for (int i = 0; i < 11; i++) {
            int place = (at + 7 + i) % 65536;
            if (7 + i <= limit && place < 640) {
                lies(place, saved[i]);
            }
        }
    }

    private void takenByEasyCode(int number, int code) {
        int flags = x.state(FLAGS);
        int ip = x.state(IP);
        int selector = x.segment(CS, 0);
        int sp = x.state(SP);
        raises(number, code);
        holds(CS, 116 + selector % 4).state(FLAGS, flags & ~NESTED).state(SP, sp - 4);
        lies(x.segment(SS, 1) + sp - 4, code, ip, selector, flags);
    }

    private static void staysAsItWas(Supplier<Rig> maker) {
        // In two halves, as an object is good for 512 calls.
        for (int half = 0; half < 2; half++) {
            Rig was = maker.get().withoutVectors();
            Rig is = maker.get().withoutVectors().goesDown();
            for (int a = half * HALF; a < half * HALF + HALF; a++) {
                is.lies(a, was.x.peek(a));
            }
            for (int what = A; what <= LEVEL; what++) {
                is.state(what, was.x.state(what));
            }
            for (int q = CS; q <= TR; q++) {
                for (int what = 0; what < 5; what++) {
                    is.segment(q, what, was.x.segment(q, what));
                }
            }
        }
    }

    Rig withoutVectors() {
        for (int v : FAULT_VECTORS) {
            describe(32 + v, 0, 0, 0, 0, false);
        }
        return this;
    }

    /** One instruction whose fault can't be delivered, nor can fault 8 in its place. */
    Rig goesDown() {
        int before = x.state(FAULTS);
        due(name + ": step(1)", x.step(1), 0);
        return state(HALT, 2).state(NUMBER, 8).state(CODE, 0).state(FAULTS, before + 2);
    }

    Rig state(int what, int want) {
        int got = x.state(what);
        // Tests ask millions of times: a text is made only for an answer that is not as due.
        due(got == want ? name : name + ": state(" + what + ")", got, want);
        return this;
    }

    Rig segment(int q, int what, int want) {
        int got = x.segment(q, what);
        due(got == want ? name : name + ": segment(" + q + ", " + what + ")", got, want);
        return this;
    }

    /** What segment q holds, in the order of segment's second argument. */
    Rig holds(int q, int... want) {
        for (int what = 0; what < want.length; what++) {
            segment(q, what, want[what]);
        }
        return this;
    }

    /** The words of the memory from at on. */
    Rig lies(int at, int... want) {
        for (int i = 0; i < want.length; i++) {
            int got = x.peek(at + i);
            due(got == want[i] ? name : name + ": peek(" + (at + i) + ")", got, want[i]);
        }
        return this;
    }

    static void due(String call, boolean got, boolean want) {
        due(call, got ? 1 : 0, want ? 1 : 0);
    }

    static void due(String call, long got, long want) {
        asked++;
        if (got != want) {
            wrong++;
            System.out.println(call + " answered " + got + ", due is " + want);
            if (!sentence.isEmpty()) {
                System.out.println("    the document: " + sentence);
            }
        }
    }

    static void finish() {
        System.out.println(wrong == 0 ? asked + " answers are as due" : wrong + " of " + asked + " answers are not as due");
        if (wrong != 0) {
            System.exit(1);
        }
    }
}
