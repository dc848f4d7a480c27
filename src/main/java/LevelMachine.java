/**
 * A small machine with levels of protection. The promises that the comments
 * name are those of the document DOC.md.
 *
 * Every action inside answers false (or FAULTED) as soon as a fault is raised;
 * step then takes back what the action did, so none of them cleans up.
 */
public final class LevelMachine {
    public static final int NONE = -1;

    private static final int MOST_WORD = 65535;
    private static final int DESCRIPTORS = 48;
    private static final int SELECTORS = 128;
    private static final int VECTORS = 16;
    private static final int FIRST_VECTOR = 32;
    private static final int MOST_STEPS = 4;
    /** Drops a selector's wish, and makes what is left a word. */
    private static final int WITHOUT_WISH = 65532;

    /** No word is negative, so this can stand for a word that could not be had. */
    private static final int FAULTED = -1;

    private static final int X = 3;
    private static final int SP = 4;
    private static final int IP = 5;
    private static final int FLAGS = 6;
    private static final int REGISTERS = 7;

    private static final int ZERO_FLAG = 1;
    private static final int NEGATIVE_FLAG = 2;
    private static final int NESTED_FLAG = 4;
    private static final int MOST_FLAGS = 7;

    private static final int CS = 0;
    private static final int DS = 1;
    private static final int ES = 2;
    private static final int SS = 3;
    private static final int TR = 4;
    private static final int SEGMENTS = 5;

    private static final int NO_KIND = 0;
    private static final int DATA = 1;
    private static final int WRITABLE = 2;
    private static final int CODE = 3;
    private static final int READABLE_CODE = 4;
    private static final int EASY = 5;
    private static final int GATE = 6;
    private static final int FREE_TASK = 7;
    private static final int BUSY_TASK = 8;
    private static final int TASK_GATE = 9;
    private static final int TRAP_GATE = 10;
    private static final int MOST_KIND = 15;
    private static final int MOST_RANK = 3;

    private static final int BAD_INSTRUCTION = 6;
    private static final int DOUBLE = 8;
    private static final int BAD_TASK = 10;
    private static final int NOT_THERE = 11;
    private static final int BAD_STACK = 12;
    private static final int PROTECTED = 13;

    private static final int RUNNING = 0;
    private static final int STOPPED = 1;
    private static final int DOWN = 2;

    private static final int FOR_GOOD = 0;
    private static final int NESTING = 1;
    private static final int GOING_BACK = 2;

    private static final int TASK_IP = 7;
    private static final int TASK_FLAGS = 8;
    private static final int TASK_A = 9;
    private static final int TASK_CS = 14;
    private static final int TASK_DS = 15;
    private static final int TASK_ES = 16;
    private static final int TASK_SS = 17;

    private final Memory memory;
    private final int[] registers;
    private final int[] registersBefore;
    private final Segment[] segments;
    private final Segment[] segmentsBefore;
    private final Segment outerStack;
    private final Instruction now;
    private int halt;
    private int raisedNumber;
    private int raisedCode;
    private int latestNumber;
    private int latestCode;
    private int faults;

    /** Promise 1. */
    public LevelMachine() {
        memory = new Memory();
        registers = new int[REGISTERS];
        registersBefore = new int[REGISTERS];
        segments = new Segment[SEGMENTS];
        segmentsBefore = new Segment[SEGMENTS];
        for (int q = 0; q < SEGMENTS; q++) {
            int beyond = q == SS ? BAD_STACK : PROTECTED;
            segments[q] = new Segment(beyond);
            segmentsBefore[q] = new Segment(beyond);
        }
        outerStack = new Segment(BAD_STACK);
        now = new Instruction();
    }

    /** Promise 2. */
    public boolean poke(int a, int w) {
        if (!Memory.holds(a) || !isWord(w)) {
            return false;
        }
        memory.put(a, w);
        return true;
    }

    /** Promise 3. */
    public int peek(int a) {
        return Memory.holds(a) ? memory.at(a) : NONE;
    }

    /** Promise 4. */
    public boolean describe(int k, int first, int second, int kind, int rank, boolean there) {
        if (k < 0 || k >= DESCRIPTORS || !isWord(first) || !isWord(second)) {
            return false;
        }
        if (kind < 0 || kind > MOST_KIND || rank < 0 || rank > MOST_RANK) {
            return false;
        }
        memory.put(4 * k, first);
        memory.put(4 * k + 1, second);
        memory.put(4 * k + 2, kind + 16 * rank + (there ? 64 : 0));
        return true;
    }

    /** Promise 5. */
    public boolean set(int r, int v) {
        if (r < 0 || r >= REGISTERS || !isWord(v) || r == FLAGS && v > MOST_FLAGS) {
            return false;
        }
        registers[r] = v;
        return true;
    }

    /** Promise 6. */
    public boolean force(int q, int s) {
        if (q < 0 || q >= SEGMENTS || s < 0 || s >= SELECTORS) {
            return false;
        }
        if (memory.kindOf(s) == NO_KIND) {
            segments[q].clear();
        } else {
            segments[q].load(memory, s);
        }
        return true;
    }

    /** Promise 7. */
    public int step(int n) {
        if (n < 0 || n > MOST_STEPS) {
            return NONE;
        }
        int done = 0;
        for (int i = 0; i < n && halt == RUNNING; i++) {
            keepAll();
            if (perform() || deliver()) {
                done++;
            }
        }
        return done;
    }

    /** Promise 8. */
    public boolean wake() {
        boolean halted = halt != RUNNING;
        halt = RUNNING;
        return halted;
    }

    /** Promise 9. */
    public int state(int what) {
        if (what >= 0 && what < REGISTERS) {
            return registers[what];
        }
        switch (what) {
            case 7: return level();
            case 8: return halt;
            case 9: return latestNumber;
            case 10: return latestCode;
            case 11: return faults;
            default: return NONE;
        }
    }

    /** Promise 10. */
    public int segment(int q, int what) {
        if (q < 0 || q >= SEGMENTS) {
            return NONE;
        }
        switch (what) {
            case 0: return segments[q].selector;
            case 1: return segments[q].base;
            case 2: return segments[q].limit;
            case 3: return segments[q].kind;
            case 4: return segments[q].rank;
            default: return NONE;
        }
    }

    private static boolean isWord(int w) {
        return w >= 0 && w <= MOST_WORD;
    }

    private static boolean isCode(int kind) {
        return kind >= CODE && kind <= EASY;
    }

    private int level() {
        return segments[CS].selector % 4;
    }

    private void keepAll() {
        memory.keep();
        System.arraycopy(registers, 0, registersBefore, 0, REGISTERS);
        for (int q = 0; q < SEGMENTS; q++) {
            segmentsBefore[q].copy(segments[q]);
        }
    }

    private void takeAllBack() {
        memory.takeBack();
        System.arraycopy(registersBefore, 0, registers, 0, REGISTERS);
        for (int q = 0; q < SEGMENTS; q++) {
            segments[q].copy(segmentsBefore[q]);
        }
    }

    /**
     * Codes have the wish 0; so the code of a selector that is NONE comes out
     * as the 0 that the document asks for it, and no caller tells it apart.
     */
    private boolean fault(int number, int code) {
        raisedNumber = number;
        raisedCode = code & WITHOUT_WISH;
        return false;
    }

    private void note(int number, int code) {
        latestNumber = number;
        latestCode = code;
        faults++;
    }

    /** Delivers the fault that was raised, or fault 8 in its place, or goes down. */
    private boolean deliver() {
        int number = raisedNumber;
        int code = raisedCode;
        takeAllBack();
        note(number, code);
        if (trap(number, false) && push(code)) {
            return true;
        }
        takeAllBack();
        note(DOUBLE, 0);
        if (trap(DOUBLE, false) && push(0)) {
            return true;
        }
        takeAllBack();
        halt = DOWN;
        return false;
    }

    private int read(Segment segment, int offset) {
        int place = Memory.round(offset);
        if (segment.kind == NO_KIND || segment.kind == CODE) {
            fault(PROTECTED, 0);
            return FAULTED;
        }
        if (place > segment.limit) {
            fault(segment.beyond, 0);
            return FAULTED;
        }
        return memory.at(segment.base + place);
    }

    private boolean write(Segment segment, int offset, int w) {
        int place = Memory.round(offset);
        if (segment.kind != WRITABLE) {
            return fault(PROTECTED, 0);
        }
        if (place > segment.limit) {
            return fault(segment.beyond, 0);
        }
        memory.put(segment.base + place, w);
        return true;
    }

    private boolean push(int w) {
        registers[SP] = Memory.round(registers[SP] - 1);
        return write(segments[SS], registers[SP], w);
    }

    private int pop() {
        int w = read(segments[SS], registers[SP]);
        if (w != FAULTED) {
            registers[SP] = Memory.round(registers[SP] + 1);
        }
        return w;
    }

    private int fetch() {
        Segment code = segments[CS];
        int place = registers[IP];
        if (code.kind == NO_KIND || place > code.limit) {
            fault(PROTECTED, 0);
            return FAULTED;
        }
        registers[IP] = Memory.round(place + 1);
        return memory.at(code.base + place);
    }

    private boolean decode() {
        int w = fetch();
        if (w == FAULTED) {
            return false;
        }
        now.split(w);
        if (!now.isProper()) {
            return fault(BAD_INSTRUCTION, 0);
        }
        int tail = now.tail();
        now.n = tail >= 1 ? fetch() : 0;
        if (now.n == FAULTED) {
            return false;
        }
        now.m = tail >= 2 ? fetch() : 0;
        return now.m != FAULTED;
    }

    private boolean perform() {
        if (!decode()) {
            return false;
        }
        int r = now.r;
        int q = now.q;
        int n = now.n;
        int m = now.m;
        switch (now.operation) {
            case Instruction.STOP: return stop();
            case Instruction.SET: return give(r, n);
            case Instruction.MOVE: return give(r, registers[q]);
            case Instruction.ADD: return give(r, judge(registers[r] + registers[q]));
            case Instruction.SUB: return give(r, judge(registers[r] - registers[q]));
            case Instruction.COMPARE: return compare(registers[r], registers[q]);
            case Instruction.READ: return give(r, read(segments[q], n + registers[X]));
            case Instruction.WRITE: return write(segments[q], n + registers[X], registers[r]);
            case Instruction.GO: return go(n, true);
            case Instruction.ZERO: return go(n, isZero());
            case Instruction.OTHER: return go(n, !isZero());
            case Instruction.PUSH: return push(registers[r]);
            case Instruction.POP: return give(r, pop());
            case Instruction.LOAD: return q == SS ? loadStack(registers[r]) : loadData(segments[q], registers[r]);
            case Instruction.TELL: return give(r, segments[q].selector);
            case Instruction.JUMP: return isCode(memory.kindOf(m)) ? toCode(m, n, false) : throughGate(m, false);
            case Instruction.CALL: return isCode(memory.kindOf(m)) ? toCode(m, n, true) : throughGate(m, true);
            case Instruction.RETURN: return comeBack(n, false);
            case Instruction.TRAP: return trap(n, true);
            case Instruction.BACK: return back();
            case Instruction.TASK: return beginTask(registers[r]);
            case Instruction.ADJUST: return adjust(r, registers[q] % 4);
            default: return fault(BAD_INSTRUCTION, 0);
        }
    }

    private boolean stop() {
        if (level() != 0) {
            return fault(PROTECTED, 0);
        }
        halt = STOPPED;
        return true;
    }

    private boolean give(int r, int w) {
        if (w == FAULTED) {
            return false;
        }
        registers[r] = w;
        return true;
    }

    /** Makes a result a word, and lets Z and N tell of it. */
    private int judge(int result) {
        int w = Memory.round(result);
        int others = registers[FLAGS] & NESTED_FLAG;
        registers[FLAGS] = others + (w == 0 ? ZERO_FLAG : 0) + (w >= 32768 ? NEGATIVE_FLAG : 0);
        return w;
    }

    private boolean compare(int one, int other) {
        judge(one - other);
        return true;
    }

    private boolean isZero() {
        return (registers[FLAGS] & ZERO_FLAG) != 0;
    }

    private boolean go(int n, boolean wanted) {
        if (wanted) {
            registers[IP] = n;
        }
        return true;
    }

    private boolean adjust(int r, int wish) {
        int own = registers[r] % 4;
        int others = registers[FLAGS] & (NEGATIVE_FLAG + NESTED_FLAG);
        registers[FLAGS] = others + (own < wish ? ZERO_FLAG : 0);
        if (own < wish) {
            registers[r] += wish - own;
        }
        return true;
    }

    private boolean loadData(Segment segment, int s) {
        if (s < 4) {
            segment.clear();
            return true;
        }
        int kind = memory.kindOf(s);
        if (kind != DATA && kind != WRITABLE && kind != READABLE_CODE && kind != EASY) {
            return fault(PROTECTED, s);
        }
        int rank = memory.rank(s);
        if (kind != EASY && (rank < level() || rank < s % 4)) {
            return fault(PROTECTED, s);
        }
        if (!memory.isThere(s)) {
            return fault(NOT_THERE, s);
        }
        segment.load(memory, s);
        return true;
    }

    private boolean loadStack(int s) {
        int level = level();
        if (memory.kindOf(s) != WRITABLE || s % 4 != level || memory.rank(s) != level) {
            return fault(PROTECTED, s);
        }
        if (!memory.isThere(s)) {
            return fault(BAD_STACK, s);
        }
        segments[SS].load(memory, s);
        return true;
    }

    private boolean beginTask(int s) {
        if (level() != 0) {
            return fault(PROTECTED, 0);
        }
        if (memory.kindOf(s) != FREE_TASK) {
            return fault(PROTECTED, s);
        }
        if (!memory.isThere(s)) {
            return fault(NOT_THERE, s);
        }
        memory.turn(s, BUSY_TASK);
        segments[TR].load(memory, s);
        return true;
    }

    private boolean mayEnter(int s, int n, int level) {
        int kind = memory.kindOf(s);
        if (!isCode(kind)) {
            return fault(PROTECTED, s);
        }
        int rank = memory.rank(s);
        if (kind == EASY ? rank > level : rank != level) {
            return fault(PROTECTED, s);
        }
        if (!memory.isThere(s)) {
            return fault(NOT_THERE, s);
        }
        return n <= memory.second(s) || fault(PROTECTED, 0);
    }

    private boolean enter(int s, int n, int level) {
        if (!mayEnter(s, n, level)) {
            return false;
        }
        segments[CS].load(memory, s - s % 4 + level);
        registers[IP] = n;
        return true;
    }

    /** JUMP and CALL to code without a gate. */
    private boolean toCode(int m, int n, boolean calling) {
        int level = level();
        if (memory.kindOf(m) != EASY && m % 4 > level) {
            return fault(PROTECTED, m);
        }
        if (calling && !(push(segments[CS].selector) && push(registers[IP]))) {
            return false;
        }
        return enter(m, n, level);
    }

    /** JUMP and CALL to all that is not code. */
    private boolean throughGate(int m, boolean calling) {
        int kind = memory.kindOf(m);
        if (kind != GATE && kind != FREE_TASK && kind != TASK_GATE) {
            return fault(PROTECTED, m);
        }
        int rank = memory.rank(m);
        if (rank < level() || rank < m % 4) {
            return fault(PROTECTED, m);
        }
        if (!memory.isThere(m)) {
            return fault(NOT_THERE, m);
        }
        int target = kind == FREE_TASK ? m : memory.first(m);
        if (kind != GATE) {
            return switchTo(target, calling ? NESTING : FOR_GOOD);
        }
        if (calling) {
            return enterDeep(target, memory.second(m), memory.count(m), false);
        }
        return enter(target, memory.second(m), level());
    }

    private boolean trap(int v, boolean byProgram) {
        int e = 4 * (FIRST_VECTOR + v);
        if (v >= VECTORS) {
            return fault(PROTECTED, e);
        }
        int kind = memory.kind(e);
        if (kind != TASK_GATE && kind != TRAP_GATE) {
            return fault(PROTECTED, e);
        }
        if (byProgram && memory.rank(e) < level()) {
            return fault(PROTECTED, e);
        }
        if (!memory.isThere(e)) {
            return fault(NOT_THERE, e);
        }
        if (kind == TASK_GATE) {
            return switchTo(memory.first(e), NESTING);
        }
        if (!enterDeep(memory.first(e), memory.second(e), 0, true)) {
            return false;
        }
        registers[FLAGS] &= ~NESTED_FLAG;
        return true;
    }

    private boolean enterDeep(int s, int n, int count, boolean withFlags) {
        int kind = memory.kindOf(s);
        if (!isCode(kind)) {
            return fault(PROTECTED, s);
        }
        int level = level();
        int rank = memory.rank(s);
        if (kind != EASY && rank < level) {
            level = rank;
            int outerSp = registers[SP];
            if (!mayEnter(s, n, level) || !takeInnerStack(level) || !carryOver(outerSp, count)) {
                return false;
            }
        }
        if (withFlags && !push(registers[FLAGS])) {
            return false;
        }
        // Looked at again: the words pushed may lie on the table itself.
        return push(segments[CS].selector) && push(registers[IP]) && enter(s, n, level);
    }

    private boolean takeInnerStack(int level) {
        Segment task = segments[TR];
        if (task.kind == NO_KIND) {
            return fault(BAD_TASK, 0);
        }
        int innerSp = read(task, 2 * level + 1);
        int t = innerSp == FAULTED ? FAULTED : read(task, 2 * level + 2);
        if (t == FAULTED) {
            return false;
        }
        if (memory.kindOf(t) != WRITABLE || t % 4 != level || memory.rank(t) != level) {
            return fault(BAD_TASK, t);
        }
        if (!memory.isThere(t)) {
            return fault(BAD_STACK, t);
        }
        int outerSp = registers[SP];
        outerStack.copy(segments[SS]);
        segments[SS].load(memory, t);
        registers[SP] = innerSp;
        return push(outerStack.selector) && push(outerSp);
    }

    /** From the last to the first, so that the words lie as they did on the outer stack. */
    private boolean carryOver(int outerSp, int count) {
        for (int i = count - 1; i >= 0; i--) {
            int w = read(outerStack, outerSp + i);
            if (w == FAULTED || !push(w)) {
                return false;
            }
        }
        return true;
    }

    private boolean back() {
        if ((registers[FLAGS] & NESTED_FLAG) == 0) {
            return comeBack(0, true);
        }
        Segment task = segments[TR];
        if (task.kind == NO_KIND) {
            return fault(BAD_TASK, 0);
        }
        return switchTo(memory.at(task.base), GOING_BACK);
    }

    private boolean comeBack(int dropped, boolean withFlags) {
        // A pop that faults leaves SP alone, so that the next one faults alike.
        int n = pop();
        int c = pop();
        int flags = withFlags ? pop() : registers[FLAGS];
        if (n == FAULTED || c == FAULTED || flags == FAULTED) {
            return false;
        }
        registers[FLAGS] = flags & MOST_FLAGS;
        int wish = c % 4;
        if (wish < level()) {
            return fault(PROTECTED, c);
        }
        registers[SP] = Memory.round(registers[SP] + dropped);
        return wish == level() ? enter(c, n, wish) : comeOut(c, n, dropped);
    }

    private boolean comeOut(int c, int n, int dropped) {
        int outerSp = pop();
        int t = pop();
        if (outerSp == FAULTED || t == FAULTED) {
            return false;
        }
        if (!enter(c, n, c % 4) || !loadStack(t)) {
            return false;
        }
        registers[SP] = Memory.round(outerSp + dropped);
        hide(segments[DS]);
        hide(segments[ES]);
        return true;
    }

    private void hide(Segment segment) {
        if (segment.rank < level() && segment.kind != EASY) {
            segment.clear();
        }
    }

    private boolean switchTo(int s, int manner) {
        if (memory.kindOf(s) != (manner == GOING_BACK ? BUSY_TASK : FREE_TASK)) {
            return fault(PROTECTED, s);
        }
        if (!memory.isThere(s)) {
            return fault(NOT_THERE, s);
        }
        if (memory.second(s) < TASK_SS) {
            return fault(BAD_TASK, s);
        }
        Segment task = segments[TR];
        if (task.kind == NO_KIND) {
            return fault(BAD_TASK, 0);
        }
        saveTask(manner);
        int old = task.selector;
        if (manner != NESTING) {
            memory.turn(old, FREE_TASK);
        }
        memory.turn(s, BUSY_TASK);
        task.load(memory, s);
        if (manner == NESTING) {
            memory.put(task.base, old);
        }
        return resumeTask(manner);
    }

    private void saveTask(int manner) {
        int dropped = manner == GOING_BACK ? NESTED_FLAG : 0;
        saveWord(TASK_IP, registers[IP]);
        saveWord(TASK_FLAGS, registers[FLAGS] & ~dropped);
        for (int r = 0; r <= SP; r++) {
            saveWord(TASK_A + r, registers[r]);
        }
        for (int q = CS; q <= SS; q++) {
            saveWord(TASK_CS + q, segments[q].selector);
        }
    }

    private void saveWord(int offset, int w) {
        Segment task = segments[TR];
        if (offset <= task.limit) {
            memory.put(task.base + offset, w);
        }
    }

    private boolean resumeTask(int manner) {
        int base = segments[TR].base;
        int nested = manner == NESTING ? NESTED_FLAG : 0;
        registers[FLAGS] = memory.at(base + TASK_FLAGS) & MOST_FLAGS | nested;
        for (int r = 0; r <= SP; r++) {
            registers[r] = memory.at(base + TASK_A + r);
        }
        int c = memory.at(base + TASK_CS);
        return enter(c, memory.at(base + TASK_IP), c % 4)
            && loadStack(memory.at(base + TASK_SS))
            && loadData(segments[DS], memory.at(base + TASK_DS))
            && loadData(segments[ES], memory.at(base + TASK_ES));
    }

    /** The words, and the descriptors that lie in the first of them. */
    private static final class Memory {
        private static final int SIZE = 640;
        private static final int LOST = 65535;

        private final int[] words;
        private final int[] before;

        Memory() {
            words = new int[SIZE];
            before = new int[SIZE];
        }

        static int round(int w) {
            return w & 65535;
        }

        static boolean holds(int a) {
            return a >= 0 && a < SIZE;
        }

        int at(int a) {
            int place = a & 65535;
            return place < SIZE ? words[place] : LOST;
        }

        void put(int a, int w) {
            int place = a & 65535;
            if (place < SIZE) {
                words[place] = w;
            }
        }

        void keep() {
            System.arraycopy(words, 0, before, 0, SIZE);
        }

        void takeBack() {
            System.arraycopy(before, 0, words, 0, SIZE);
        }

        // Below, s is a selector or 4 times a descriptor's number. The mask 252
        // drops the wish, and keeps the index inside the memory for every s.

        /** The kind that selector s leads to; none if s is NONE or WRONG. */
        int kindOf(int s) {
            return s >= 4 && s < SELECTORS ? words[(s & 252) + 2] % 16 : NO_KIND;
        }

        int first(int s) {
            return words[s & 252];
        }

        int second(int s) {
            return words[(s & 252) + 1];
        }

        int kind(int s) {
            return words[(s & 252) + 2] % 16;
        }

        int rank(int s) {
            return words[(s & 252) + 2] / 16 % 4;
        }

        boolean isThere(int s) {
            return words[(s & 252) + 2] / 64 % 2 == 1;
        }

        int count(int s) {
            return words[(s & 252) + 3] % 8;
        }

        void turn(int s, int kind) {
            int place = (s & 252) + 2;
            words[place] = words[place] - words[place] % 16 + kind;
        }
    }

    /** What a segment holds since it was loaded; all is 0 if it has none. */
    private static final class Segment {
        /** The fault of an offset above the limit. */
        private final int beyond;
        private int selector;
        private int base;
        private int limit;
        private int kind;
        private int rank;

        Segment(int beyond) {
            this.beyond = beyond;
        }

        void clear() {
            selector = 0;
            base = 0;
            limit = 0;
            kind = NO_KIND;
            rank = 0;
        }

        void load(Memory memory, int s) {
            selector = s;
            base = memory.first(s);
            limit = memory.second(s);
            kind = memory.kind(s);
            rank = memory.rank(s);
        }

        void copy(Segment other) {
            selector = other.selector;
            base = other.base;
            limit = other.limit;
            kind = other.kind;
            rank = other.rank;
        }
    }

    /** The instruction at hand: its parts, and what its operation allows of them. */
    private static final class Instruction {
        private static final int STOP = 0;
        private static final int SET = 1;
        private static final int MOVE = 2;
        private static final int ADD = 3;
        private static final int SUB = 4;
        private static final int COMPARE = 5;
        private static final int READ = 6;
        private static final int WRITE = 7;
        private static final int GO = 8;
        private static final int ZERO = 9;
        private static final int OTHER = 10;
        private static final int PUSH = 11;
        private static final int POP = 12;
        private static final int LOAD = 13;
        private static final int TELL = 14;
        private static final int JUMP = 15;
        private static final int CALL = 16;
        private static final int RETURN = 17;
        private static final int TRAP = 18;
        private static final int BACK = 19;
        private static final int TASK = 20;
        private static final int ADJUST = 21;
        private static final int OPERATIONS = 22;

        private static final int MOST_R = 4;
        /** By operation: the greatest Q, 7 where Q means nothing. */
        private static final int[] MOST_Q =
            {7, 7, 4, 4, 4, 4, 3, 3, 7, 7, 7, 7, 7, 3, 4, 7, 7, 7, 7, 7, 7, 4};
        /** By operation: how many words stand behind its own. */
        private static final int[] TAILS =
            {0, 1, 0, 0, 0, 0, 1, 1, 1, 1, 1, 0, 0, 0, 0, 2, 2, 1, 1, 0, 0, 0};

        private int operation;
        private int r;
        private int q;
        private int n;
        private int m;

        void split(int w) {
            operation = w / 64;
            r = w / 8 % 8;
            q = w % 8;
        }

        boolean isProper() {
            return operation < OPERATIONS
                && r <= MOST_R
                && q <= MOST_Q[operation]
                && (operation != LOAD || q != CS);
        }

        int tail() {
            return operation < OPERATIONS ? TAILS[operation] : 0;
        }
    }
}
