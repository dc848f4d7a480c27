/** Terms: the last offset within a limit and the first above it, for each way to read, write, push, pop and fetch. */
public final class LimitEdgesTest {
    private static final int MOVE = Rig.op(2, 0, 0), SET = Rig.op(1, 0, 0);
    private static final int PUSH = Rig.op(11, 0, 0), POP = Rig.op(12, 1, 0);
    private static final int JUMP = Rig.op(15, 0, 0), CALL = Rig.op(16, 0, 0), RETURN = Rig.op(17, 0, 0);
    private static final int TRAP = Rig.op(18, 0, 0), BACK = Rig.op(19, 0, 0);

    public static void main(String[] args) {
        kindsThatAreRead();
        kindsThatAreWritten();
        kindsThatArePushedAndPopped();
        readsAtLimits();
        writesAtLimits();
        kindBeforeLimit();
        pushes();
        pops();
        callsAtLimits();
        trapsAtLimits();
        deepEntriesAtLimits();
        outerWordsAtLimits();
        tasksAtLimits();
        returnsAtLimits();
        backsAtLimits();
        fetches();
        fetchesAnyCode();
        Rig.finish();
    }

    private static int read(int q) {
        return Rig.op(6, 1, q);
    }

    private static int write(int q) {
        return Rig.op(7, 1, q);
    }

    /** Descriptor 8, of any kind, is forced into segment q; its words are 50 .. 61. */
    private static Rig with(int q, int kind, int limit, int... code) {
        return Rig.level0("segment " + q + " of kind " + kind + ", limit " + limit).code(code)
            .describe(8, 590, limit, kind, 3, true).force(q, 32)
            .memory(590, 50, 51, 52, 53, 54, 55, 56, 57, 58, 59, 60, 61).set(Rig.B, 7);
    }

    private static void kindsThatAreRead() {
        Rig.sentence("READING or WRITING an offset of segment Q: fault 13, 0 if it has none, (writing) its kind is not 2,"
            + " or (reading) it is 3;");
        for (int q = Rig.DS; q <= Rig.SS; q++) {
            int segment = q;
            for (int kind = 0; kind <= 15; kind++) {
                int its = kind;
                if (kind == 0 || kind == 3) {
                    Rig.faulty(13, 0, () -> with(segment, its, 10, read(segment), 3));
                    Rig.faulty(13, 0, () -> with(segment, its, 10, read(segment), 0));
                } else {
                    with(q, kind, 10, read(q), 3).goes().state(Rig.B, 53);
                }
            }
        }
        Rig.level0("READ of CS").code(read(Rig.CS), 1).goes().state(Rig.B, 1);
        Rig.level0("READ of easy CS").describe(8, Rig.CODE0, 60, 5, 0, true).force(Rig.CS, 32).code(read(Rig.CS), 1).goes()
            .state(Rig.B, 1);
        Rig.faulty(13, 0, () -> Rig.level0("READ of CS of kind 3").describe(8, Rig.CODE0, 60, 3, 0, true)
            .force(Rig.CS, 32).code(read(Rig.CS), 1));
    }

    private static void kindsThatAreWritten() {
        for (int q = Rig.DS; q <= Rig.SS; q++) {
            int segment = q;
            for (int kind = 0; kind <= 15; kind++) {
                int its = kind;
                if (kind == 2) {
                    with(q, kind, 10, write(q), 3).goes().lies(592, 52, 7, 54);
                } else {
                    Rig.faulty(13, 0, () -> with(segment, its, 10, write(segment), 3));
                }
            }
        }
        for (int kind = 3; kind <= 5; kind++) {
            int its = kind;
            Rig.faulty(13, 0, () -> Rig.level0("WRITE of CS of kind " + its).describe(8, Rig.CODE0, 60, its, 0, true)
                .force(Rig.CS, 32).code(write(Rig.CS), 1));
        }
    }

    private static void kindsThatArePushedAndPopped() {
        for (int kind = 0; kind <= 15; kind++) {
            int its = kind;
            if (kind == 2) {
                with(Rig.SS, kind, 10, PUSH).set(Rig.SP, 5).goes().state(Rig.SP, 4).lies(594, 0);
            } else {
                Rig.faulty(13, 0, () -> with(Rig.SS, its, 10, PUSH).set(Rig.SP, 5));
            }
            if (kind == 0 || kind == 3) {
                Rig.faulty(13, 0, () -> with(Rig.SS, its, 10, POP).set(Rig.SP, 5));
            } else {
                with(Rig.SS, kind, 10, POP).set(Rig.SP, 5).goes().state(Rig.SP, 6).state(Rig.B, 55);
            }
        }
    }

    private static void readsAtLimits() {
        Rig.sentence("if the offset is above its limit 13, 0, or 12, 0 for SS.");
        for (int q = Rig.DS; q <= Rig.SS; q++) {
            int segment = q;
            int number = q == Rig.SS ? 12 : 13;
            for (int limit : new int[] {0, 1, 10}) {
                with(q, 2, limit, read(q), limit).goes().state(Rig.B, 50 + limit);
                with(q, 2, limit, read(q), 65535).set(Rig.X, limit + 1).goes().state(Rig.B, 50 + limit);
                with(q, 2, limit, read(q), 0).goes().state(Rig.B, 50);
                Rig.faulty(number, 0, () -> with(segment, 2, limit, read(segment), limit + 1));
                Rig.faulty(number, 0, () -> with(segment, 2, limit, read(segment), limit).set(Rig.X, 1));
                Rig.faulty(number, 0, () -> with(segment, 2, limit, read(segment), 65535));
            }
        }
        Rig.level0("READ of CS at its limit").memory(Rig.CODE0 + 60, 33).code(read(Rig.CS), 60).goes().state(Rig.B, 33);
        Rig.faulty(13, 0, () -> Rig.level0("READ of CS above its limit").code(read(Rig.CS), 61));
    }

    private static void writesAtLimits() {
        for (int q = Rig.DS; q <= Rig.SS; q++) {
            int segment = q;
            int number = q == Rig.SS ? 12 : 13;
            for (int limit : new int[] {0, 1, 10}) {
                with(q, 2, limit, write(q), limit).goes().lies(590 + limit, 7, 51 + limit);
                with(q, 2, limit, write(q), 65535).set(Rig.X, 1).goes().lies(590, 7, 51);
                Rig.faulty(number, 0, () -> with(segment, 2, limit, write(segment), limit + 1));
                Rig.faulty(number, 0, () -> with(segment, 2, limit, write(segment), limit).set(Rig.X, 1));
                Rig.faulty(number, 0, () -> with(segment, 2, limit, write(segment), 65535));
            }
        }
    }

    private static void kindBeforeLimit() {
        // SS tells the two apart: 13 for what it is, 12 for the offset.
        for (int kind : new int[] {0, 1, 3, 4, 5}) {
            Rig.faulty(13, 0, () -> with(Rig.SS, kind, 10, write(Rig.SS), 11));
            Rig.faulty(13, 0, () -> with(Rig.SS, kind, 10, PUSH).set(Rig.SP, 0));
        }
        for (int kind : new int[] {0, 3}) {
            Rig.faulty(13, 0, () -> with(Rig.SS, kind, 10, read(Rig.SS), 11));
            Rig.faulty(13, 0, () -> with(Rig.SS, kind, 10, POP).set(Rig.SP, 11));
        }
        Rig.faulty(12, 0, () -> with(Rig.SS, 1, 10, read(Rig.SS), 11));
        Rig.faulty(12, 0, () -> with(Rig.SS, 1, 10, POP).set(Rig.SP, 11));
    }

    private static void pushes() {
        Rig.sentence("PUSHING: SP becomes 1 less, then the word is written by SS at SP.");
        for (int limit : new int[] {0, 1, 10}) {
            with(Rig.SS, 2, limit, PUSH).set(Rig.A, 9).set(Rig.SP, limit + 1).goes().state(Rig.SP, limit)
                .lies(590 + limit, 9, 51 + limit);
            with(Rig.SS, 2, limit, PUSH).set(Rig.A, 9).set(Rig.SP, 1).goes().state(Rig.SP, 0).lies(590, 9, 51);
            Rig.faulty(12, 0, () -> with(Rig.SS, 2, limit, PUSH).set(Rig.SP, limit + 2));
            Rig.faulty(12, 0, () -> with(Rig.SS, 2, limit, PUSH).set(Rig.SP, 0));
            Rig.faulty(12, 0, () -> with(Rig.SS, 2, limit, PUSH).set(Rig.SP, 65535));
        }
    }

    private static void pops() {
        Rig.sentence("POPPING: the word is read by SS at SP, then SP becomes 1 more.");
        for (int limit : new int[] {0, 1, 10}) {
            with(Rig.SS, 2, limit, POP).set(Rig.SP, limit).goes().state(Rig.SP, limit + 1).state(Rig.B, 50 + limit);
            with(Rig.SS, 2, limit, POP).set(Rig.SP, 0).goes().state(Rig.SP, 1).state(Rig.B, 50);
            Rig.faulty(12, 0, () -> with(Rig.SS, 2, limit, POP).set(Rig.SP, limit + 1));
            Rig.faulty(12, 0, () -> with(Rig.SS, 2, limit, POP).set(Rig.SP, 65535));
        }
    }

    private static void callsAtLimits() {
        Rig.sentence("CS's selector and IP (behind the instruction) are pushed, then it is entered.");
        with(Rig.SS, 2, 10, CALL, 9, 4).set(Rig.SP, 2).goes().state(Rig.SP, 0).lies(590, 3, 4, 52);
        with(Rig.SS, 2, 10, CALL, 9, 4).set(Rig.SP, 11).goes().state(Rig.SP, 9).lies(598, 58, 3, 4, 61);
        for (int sp : new int[] {0, 1, 12, 13}) {
            Rig.faulty(12, 0, () -> with(Rig.SS, 2, 10, CALL, 9, 4).set(Rig.SP, sp));
        }
        Rig.faulty(13, 0, () -> with(Rig.SS, 1, 10, CALL, 9, 4));
        Rig.faulty(13, 0, () -> with(Rig.SS, 0, 10, CALL, 9, 4));
    }

    private static void trapsAtLimits() {
        Rig.sentence("10: a deep entry of FIRST at SECOND with FLAGS, CS's selector and IP, without other words;");
        trap(3).goes().state(Rig.SP, 0).lies(590, 2, 4, 3, 53);
        trap(11).goes().state(Rig.SP, 8).lies(597, 57, 2, 4, 3, 61);
        for (int sp : new int[] {0, 1, 2, 12, 13}) {
            Rig.faulty(12, 0, () -> trap(sp));
        }
    }

    private static Rig trap(int sp) {
        return with(Rig.SS, 2, 10, TRAP, 15).describe(47, 4, 9, 10, 0, true).set(Rig.SP, sp).set(Rig.FLAGS, 3);
    }

    /** CALL through gate 9 to level 0 with COUNT words; the inner stack is descriptor 8, at SP sp. */
    private static Rig deep(int limit, int sp, int count) {
        return Rig.level3("a deep entry with " + count + " words at " + sp + ", limit " + limit)
            .describe(8, 590, limit, 2, 0, true).memory(Rig.TASK5 + 1, sp, 32).describe(9, 4, 9, 6, 3, true)
            .memory(39, count).memory(Rig.STACK3 + 30, 81, 82, 83, 84, 85, 86, 87).code(CALL, 0, 39);
    }

    private static void deepEntriesAtLimits() {
        Rig.sentence("SS and SP become these; the old SS and SP are pushed;");
        for (int count = 0; count <= 7; count++) {
            int words = count;
            deep(10, 4 + count, count).goes().state(Rig.SP, 0).lies(590, 3, 15).lies(592 + count, 30, 19, 0);
            for (int sp = 0; sp < 4 + count; sp++) {
                int its = sp;
                Rig.faulty(12, 0, () -> deep(10, its, words));
            }
            Rig.faulty(12, 0, () -> deep(10, 12, words));
        }
        deep(10, 11, 0).goes().lies(597, 3, 15, 30, 19, 0);
        for (int sp = 0; sp <= 4; sp++) {
            int its = sp;
            Rig.faulty(12, 0, () -> deepTrap(its));
        }
        deepTrap(5).goes().state(Rig.SP, 0).lies(590, 2, 15, 3, 30, 19, 0);
    }

    private static Rig deepTrap(int sp) {
        return deep(10, sp, 0).describe(47, 4, 9, 10, 3, true).memory(191, 7).set(Rig.FLAGS, 3).code(TRAP, 15);
    }

    private static void outerWordsAtLimits() {
        Rig.sentence("then COUNT words of the old stack, so that they lie as there (the first one, at the old SP,"
            + " is pushed last; each is read by the old SS; 12, 0 beyond its limit);");
        for (int count = 1; count <= 7; count++) {
            int words = count;
            Rig rig = deep(20, 20, count).set(Rig.SP, 41 - count);
            for (int i = 0; i < count; i++) {
                rig.memory(Rig.STACK3 + 41 - count + i, 91 + i);
            }
            rig.goes().state(Rig.SP, 16 - count).lies(590 + 16 - count, 3, 15).lies(590 + 18, 41 - count, 19);
            for (int i = 0; i < count; i++) {
                rig.lies(590 + 18 - count + i, 91 + i);
            }
            for (int beyond = 1; beyond <= count; beyond++) {
                int sp = 41 - count + beyond;
                Rig.faulty(12, 0, () -> deep(20, 20, words).set(Rig.SP, sp));
            }
            Rig.faulty(13, 0, () -> deep(20, 20, words).force(Rig.SS, 0));
            Rig.faulty(13, 0, () -> deep(20, 20, words).describe(10, Rig.STACK3, 40, 3, 3, true).force(Rig.SS, 40));
        }
        // Without words the old stack is not read.
        deep(20, 20, 0).set(Rig.SP, 65535).goes().lies(606, 3, 15, 65535, 19);
        deep(20, 20, 0).force(Rig.SS, 0).goes().lies(606, 3, 15, 30, 0);
    }

    private static void tasksAtLimits() {
        Rig.sentence("from the task (TR; 10, 0 if it has none) the words 2 * K + 1 (SP) and 2 * K + 2"
            + " (a selector t for SS) are read:");
        for (int level = 0; level <= 2; level++) {
            int k = level;
            inner(k, 2 * k + 2).goes().holds(Rig.SS, 32 + k, 590, 10, 2, k).state(Rig.SP, 4).state(Rig.LEVEL, k);
            Rig.faulty(13, 0, () -> inner(k, 2 * k + 1));
            Rig.faulty(13, 0, () -> inner(k, 2 * k));
        }
        Rig.faulty(10, 0, () -> inner(0, 40).force(Rig.TR, 0));
    }

    /** CALL at level 3 to code of rank k, with a task of this limit. */
    private static Rig inner(int k, int limit) {
        return Rig.level3("a task of limit " + limit + " for level " + k).describe(5, Rig.TASK5, limit, 8, 0, true)
            .force(Rig.TR, 20).memory(Rig.TASK5 + 2 * k + 1, 8, 32 + k).describe(8, 590, 10, 2, k, true)
            .describe(10, Rig.CODE0, 60, 3, k, true).describe(9, 40, 9, 6, 3, true).code(CALL, 0, 39);
    }

    private static void returnsAtLimits() {
        Rig.sentence("RETURN n: an offset and a selector c are popped;");
        with(Rig.SS, 2, 10, RETURN, 0).memory(599, 9, 4).set(Rig.SP, 9).goes().state(Rig.SP, 11).state(Rig.IP, 9);
        Rig.faulty(12, 0, () -> with(Rig.SS, 2, 10, RETURN, 0).memory(600, 9).set(Rig.SP, 10));
        Rig.faulty(12, 0, () -> with(Rig.SS, 2, 10, RETURN, 0).set(Rig.SP, 11));
        Rig.faulty(12, 0, () -> with(Rig.SS, 2, 10, RETURN, 0).set(Rig.SP, 65535));
        Rig.faulty(13, 0, () -> with(Rig.SS, 0, 10, RETURN, 0));
        // SP may go above the limit, as nothing is popped there any more.
        with(Rig.SS, 2, 10, RETURN, 500).memory(599, 9, 4).set(Rig.SP, 9).goes().state(Rig.SP, 511);

        Rig.sentence("Otherwise (OUT) a word p and a selector t are popped;");
        with(Rig.SS, 2, 10, RETURN, 0).memory(597, 9, 15, 20, 19).set(Rig.SP, 7).goes().holds(Rig.SS, 19).state(Rig.SP, 20);
        with(Rig.SS, 2, 10, RETURN, 3).memory(594, 9, 15, 0, 0, 0, 20, 19).set(Rig.SP, 4).goes().state(Rig.SP, 23);
        Rig.faulty(12, 0, () -> with(Rig.SS, 2, 10, RETURN, 0).memory(598, 9, 15, 20, 19).set(Rig.SP, 8));
        Rig.faulty(12, 0, () -> with(Rig.SS, 2, 10, RETURN, 0).memory(599, 9, 15).set(Rig.SP, 9));
        Rig.faulty(12, 0, () -> with(Rig.SS, 2, 10, RETURN, 4).memory(594, 9, 15, 0, 0, 0, 20, 19).set(Rig.SP, 4));
    }

    private static void backsAtLimits() {
        Rig.sentence("Otherwise an offset, a selector c and FLAGS are popped (FLAGS modulo 8), and the rest is as RETURN 0.");
        with(Rig.SS, 2, 10, BACK).memory(598, 9, 4, 3).set(Rig.SP, 8).goes().state(Rig.SP, 11).state(Rig.FLAGS, 3);
        for (int sp : new int[] {9, 10, 11, 65535}) {
            Rig.faulty(12, 0, () -> with(Rig.SS, 2, 10, BACK).memory(599, 9, 4).set(Rig.SP, sp));
        }
        with(Rig.SS, 2, 10, BACK).memory(596, 9, 15, 3, 20, 19).set(Rig.SP, 6).goes().holds(Rig.SS, 19).state(Rig.SP, 20);
        Rig.faulty(12, 0, () -> with(Rig.SS, 2, 10, BACK).memory(597, 9, 15, 3, 20, 19).set(Rig.SP, 7));
        Rig.faulty(12, 0, () -> with(Rig.SS, 2, 10, BACK).memory(598, 9, 15, 3).set(Rig.SP, 8));
        Rig.faulty(13, 0, () -> with(Rig.SS, 0, 10, BACK));
    }

    private static void fetches() {
        Rig.sentence("FETCHING a word of an instruction: at IP by CS (13, 0 above the limit, any code may be fetched),"
            + " then IP becomes 1 more.");
        ends(60, MOVE).goes().state(Rig.IP, 61);
        ends(59, SET, 8).goes().state(Rig.IP, 61).state(Rig.A, 8);
        ends(58, JUMP, 8, 4).goes().state(Rig.IP, 8);
        Rig.faulty(13, 0, () -> ends(61, MOVE));
        Rig.faulty(13, 0, () -> ends(62, MOVE));
        Rig.faulty(13, 0, () -> Rig.level0("IP 65535").set(Rig.IP, 65535));
        for (int operation : new int[] {1, 6, 7, 8, 9, 10, 17, 18}) {
            Rig.faulty(13, 0, () -> ends(60, Rig.op(operation, 0, 3), 1));
        }
        for (int operation : new int[] {JUMP, CALL}) {
            Rig.faulty(13, 0, () -> ends(60, operation, 8, 4));
            Rig.faulty(13, 0, () -> ends(59, operation, 8, 4));
        }
        // n is fetched even where nothing is done with it.
        Rig.faulty(13, 0, () -> ends(60, Rig.op(9, 0, 0), 1));
        Rig.faulty(13, 0, () -> ends(60, Rig.op(10, 0, 0), 1).set(Rig.FLAGS, 1));
        Rig.faulty(13, 0, () -> Rig.level0("no CS").code(MOVE).force(Rig.CS, 0));
        Rig.level0("limit 0").describe(8, 600, 0, 4, 0, true).force(Rig.CS, 32).memory(600, MOVE).goes().state(Rig.IP, 1);
        Rig.faulty(13, 0, () -> Rig.level0("n above limit 0").describe(8, 600, 0, 4, 0, true).force(Rig.CS, 32)
            .memory(600, SET));
    }

    /** These words at the end of the code of level 0, whose limit is 60. */
    private static Rig ends(int ip, int... words) {
        return Rig.level0("the instruction at " + ip).set(Rig.IP, ip).memory(Rig.CODE0 + ip, words);
    }

    private static void fetchesAnyCode() {
        for (int kind = 3; kind <= 5; kind++) {
            for (int rank = 0; rank <= 3; rank++) {
                Rig.level0("code of kind " + kind).describe(8, Rig.CODE0, 60, kind, rank, false).force(Rig.CS, 35 - rank)
                    .code(SET, 8).goes().state(Rig.A, 8).state(Rig.IP, 2);
            }
        }
    }
}
