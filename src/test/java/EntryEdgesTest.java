/** Terms: ENTERING, JUMP, CALL and a DEEP ENTRY: each fault with its code, and which comes first. */
public final class EntryEdgesTest {
    private static final int JUMP = Rig.op(15, 0, 0), CALL = Rig.op(16, 0, 0);
    private static final int[] WRONGS = {128, 131, 160, 256 + 32, 65535};

    public static void main(String[] args) {
        selectors();
        codeOfEveryRank();
        wishBeforeTheRest();
        entersInOrder();
        offsets();
        otherKinds();
        gatesOfEveryRank();
        gatesEnter();
        callsPushFirst();
        deepSelectors();
        deepOfEveryRank();
        deepLooksAtCode();
        deepWithoutTask();
        deepStacks();
        deepOrder();
        deepPushes();
        notDeep();
        Rig.finish();
    }

    /** JUMP or CALL at a level to offset n of selector m; descriptors 8 and 31 have the limit 9. */
    private static Rig far(int operation, int level, int n, int m, int kind, int rank, boolean there) {
        String name = "operation " + operation / 64 + " at " + level + " to " + n + " of " + m + ", kind " + kind + ", rank " + rank;
        return Rig.at(level, name).describe(8, 590, 9, kind, rank, there).describe(31, 590, 9, kind, rank, there)
            .code(operation, n, m);
    }

    private static void selectors() {
        Rig.sentence("JUMP: 13, 0 if m is NONE, 13, m if it is WRONG.");
        for (int operation : new int[] {JUMP, CALL}) {
            for (int m = 0; m <= 3; m++) {
                int none = m;
                Rig.faulty(13, 0, () -> far(operation, 0, 7, none, 4, 0, true).describe(0, 590, 9, 4, 0, true));
                Rig.faulty(13, 0, () -> far(operation, 3, 7, none, 4, 0, true).describe(0, 590, 9, 4, 3, true));
            }
            for (int m : WRONGS) {
                for (int kind : new int[] {4, 6, 7}) {
                    Rig.faulty(13, m / 4 * 4, () -> far(operation, 0, 7, m, kind, 3, true));
                }
            }
            far(operation, 0, 7, 4, 4, 0, true).describe(1, 590, 9, 4, 0, true).goes().holds(Rig.CS, 4, 590, 9, 4, 0);
            far(operation, 0, 7, 124, 4, 0, true).goes().holds(Rig.CS, 124, 590, 9, 4, 0);
            far(operation, 0, 7, 127, 5, 0, true).goes().holds(Rig.CS, 124, 590, 9, 5, 0);
        }
    }

    private static void codeOfEveryRank() {
        Rig.sentence("By the kind: 3 to 5: entered for the level (first 13, m if it is not 5 and the wish is above the level).");
        for (int operation : new int[] {JUMP, CALL}) {
            for (int kind = 3; kind <= 5; kind++) {
                for (int level = 0; level <= 3; level++) {
                    for (int wish = 0; wish <= 3; wish++) {
                        for (int rank = 0; rank <= 3; rank++) {
                            boolean fine = kind == 5 ? rank <= level : rank == level && wish <= level;
                            codeOf(fine, operation, level, 32 + wish, kind, rank);
                        }
                    }
                }
            }
        }
    }

    private static void codeOf(boolean fine, int operation, int level, int m, int kind, int rank) {
        if (!fine) {
            far(operation, level, 7, m, kind, rank, true).faults(13, 32);
            far(operation, level, 7, m, kind, rank, false).faults(13, 32);
            far(operation, level, 10, m, kind, rank, true).faults(13, 32);
            return;
        }
        int selector = level == 3 ? 15 : 4 + level;
        Rig rig = far(operation, level, 7, m, kind, rank, true).goes().holds(Rig.CS, 32 + level, 590, 9, kind, rank)
            .state(Rig.IP, 7).state(Rig.LEVEL, level);
        int stack = rig.x.segment(Rig.SS, 1);
        if (operation == CALL) {
            rig.state(Rig.SP, 28).lies(stack + 27, 0, 3, selector, 0);
        } else {
            rig.state(Rig.SP, 30).lies(stack + 28, 0, 0);
        }
        far(operation, level, 7, m, kind, rank, false).faults(11, 32);
        far(operation, level, 9, m, kind, rank, true).goes().state(Rig.IP, 9);
        far(operation, level, 10, m, kind, rank, true).faults(13, 0);
        far(operation, level, 10, m, kind, rank, false).faults(11, 32);
    }

    private static void wishBeforeTheRest() {
        // The wish is looked at first: all else would be 11, 32 or 13, 0 or a full stack's 12, 0.
        for (int kind = 3; kind <= 4; kind++) {
            int its = kind;
            Rig.faulty(13, 32, () -> far(JUMP, 0, 10, 33, its, 0, false));
            Rig.faulty(13, 32, () -> far(CALL, 0, 7, 33, its, 0, true).set(Rig.SP, 0));
            Rig.faulty(13, 32, () -> far(CALL, 2, 7, 35, its, 2, true).set(Rig.SP, 1));
        }
        far(JUMP, 0, 7, 35, 5, 0, true).goes().holds(Rig.CS, 32);
    }

    private static void entersInOrder() {
        Rig.sentence("13, s if the kind is 5 and its rank is above L, or else its rank is not L; 11, s if not there;"
            + " 13, 0 if n is above its limit.");
        for (int operation : new int[] {JUMP, CALL}) {
            Rig.faulty(13, 32, () -> far(operation, 0, 10, 32, 5, 1, false));
            Rig.faulty(13, 32, () -> far(operation, 1, 10, 32, 4, 0, false));
            Rig.faulty(13, 32, () -> far(operation, 1, 10, 32, 3, 2, false));
            Rig.faulty(11, 32, () -> far(operation, 1, 10, 33, 3, 1, false));
            Rig.faulty(11, 124, () -> far(operation, 3, 10, 124, 5, 2, false));
            Rig.faulty(13, 0, () -> far(operation, 1, 10, 33, 3, 1, true));
            Rig.faulty(13, 0, () -> far(operation, 3, 10, 124, 5, 2, true));
        }
    }

    private static void offsets() {
        Rig.sentence("15 JUMP n, m: to offset n of selector m. 16 CALL n, m.");
        for (int limit : new int[] {0, 1, 600, 65534}) {
            far(JUMP, 0, limit, 32, 4, 0, true).describe(8, 590, limit, 4, 0, true).goes().state(Rig.IP, limit);
            far(JUMP, 0, 0, 32, 4, 0, true).describe(8, 590, limit, 4, 0, true).goes().state(Rig.IP, 0);
            Rig.faulty(13, 0, () -> far(JUMP, 0, limit + 1, 32, 4, 0, true).describe(8, 590, limit, 4, 0, true));
            Rig.faulty(13, 0, () -> far(CALL, 0, 65535, 32, 4, 0, true).describe(8, 590, limit, 4, 0, true));
        }
        far(JUMP, 0, 65535, 32, 4, 0, true).describe(8, 590, 65535, 4, 0, true).goes().state(Rig.IP, 65535);
    }

    private static void otherKinds() {
        Rig.sentence("Others: 13, m.");
        for (int operation : new int[] {JUMP, CALL}) {
            for (int kind : new int[] {0, 1, 2, 8, 10, 11, 12, 13, 14, 15}) {
                Rig.faulty(13, 32, () -> far(operation, 0, 7, 35, kind, 3, true));
                Rig.faulty(13, 32, () -> far(operation, 3, 7, 32, kind, 0, false));
            }
        }
    }

    /** JUMP or CALL at a level through gate 8 to offset 9 of a selector; n, 65535, is not looked at. */
    private static Rig gate(int operation, int level, int m, int rank, boolean there, int target) {
        String name = "operation " + operation / 64 + " at " + level + " through " + m + ", rank " + rank + ", to " + target;
        return Rig.at(level, name).describe(8, target, 9, 6, rank, there).code(operation, 65535, m);
    }

    private static void gatesOfEveryRank() {
        Rig.sentence("6: through the gate: 13, m if its rank is less than the level or the wish; 11, m if not there;"
            + " then FIRST is entered at SECOND for the level.");
        for (int operation : new int[] {JUMP, CALL}) {
            for (int level = 0; level <= 3; level++) {
                for (int wish = 0; wish <= 3; wish++) {
                    for (int rank = 0; rank <= 3; rank++) {
                        gateOf(rank >= level && rank >= wish, operation, level, 32 + wish, rank);
                    }
                }
            }
        }
    }

    /** The gate leads to easy code, which any level may enter. */
    private static void gateOf(boolean fine, int operation, int level, int m, int rank) {
        if (fine) {
            gate(operation, level, m, rank, true, 39).describe(9, 590, 9, 5, 0, true).goes()
                .holds(Rig.CS, 36 + level, 590, 9, 5, 0).state(Rig.IP, 9);
            gate(operation, level, m, rank, false, 39).faults(11, 32);
            gate(operation, level, m, rank, false, 131).faults(11, 32);
        } else {
            gate(operation, level, m, rank, true, 39).describe(9, 590, 9, 5, 0, true).faults(13, 32);
            gate(operation, level, m, rank, false, 39).faults(13, 32);
        }
    }

    private static void gatesEnter() {
        Rig.sentence("ENTERING code, by selector s at offset n, for a level L: 13, 0 if NONE; 13, s if WRONG or the kind is"
            + " not 3 to 5;");
        for (int s = 0; s <= 3; s++) {
            int none = s;
            Rig.faulty(13, 0, () -> gate(JUMP, 0, 32, 0, true, none).describe(0, 590, 9, 4, 0, true));
        }
        for (int s : WRONGS) {
            Rig.faulty(13, s / 4 * 4, () -> gate(JUMP, 0, 32, 0, true, s));
        }
        for (int kind = 0; kind <= 15; kind++) {
            if (kind < 3 || kind > 5) {
                int its = kind;
                Rig.faulty(13, 36, () -> gate(JUMP, 0, 32, 0, true, 38).describe(9, 590, 9, its, 0, true));
            }
        }
        for (int level = 0; level <= 3; level++) {
            for (int rank = 0; rank <= 3; rank++) {
                for (int kind = 3; kind <= 5; kind++) {
                    Rig rig = gate(JUMP, level, 35, 3, true, 37).describe(9, 590, 9, kind, rank, true);
                    if (kind == 5 ? rank <= level : rank == level) {
                        rig.goes().holds(Rig.CS, 36 + level, 590, 9, kind, rank).state(Rig.SP, 30);
                    } else {
                        rig.faults(13, 36);
                    }
                }
            }
        }
        Rig.faulty(11, 36, () -> gate(JUMP, 0, 32, 0, true, 37).describe(9, 590, 8, 4, 0, false));
        Rig.faulty(13, 0, () -> gate(JUMP, 0, 32, 0, true, 37).describe(9, 590, 8, 4, 0, true));
        gate(JUMP, 0, 32, 0, true, 37).describe(9, 590, 9, 4, 0, true).goes().state(Rig.IP, 9);
    }

    private static void callsPushFirst() {
        Rig.sentence("CALL: likewise, but code: CS's selector and IP (behind the instruction) are pushed, then it is entered.");
        for (int kind = 3; kind <= 5; kind++) {
            int its = kind;
            // Without room for both words none of what entering would raise comes up.
            Rig.faulty(12, 0, () -> far(CALL, 0, 7, 32, its, 3, true).set(Rig.SP, 1));
            Rig.faulty(12, 0, () -> far(CALL, 0, 7, 32, its, 0, false).set(Rig.SP, 0));
            Rig.faulty(12, 0, () -> far(CALL, 0, 10, 32, its, 0, true).set(Rig.SP, 1));
            Rig.faulty(13, 0, () -> far(CALL, 0, 7, 32, its, 3, true).force(Rig.SS, 0));
        }
        // But m itself is looked at before: the descriptors that its number ends in are code.
        for (int m : new int[] {0, 3}) {
            Rig.faulty(13, 0, () -> far(CALL, 0, 7, m, 4, 0, true).describe(0, 590, 9, 4, 0, true).set(Rig.SP, 0));
            Rig.faulty(13, 0, () -> far(CALL, 3, 7, m, 4, 3, true).describe(0, 590, 9, 5, 0, true).set(Rig.SP, 0));
        }
        Rig.faulty(13, 256 + 32, () -> far(CALL, 0, 7, 256 + 32, 4, 0, true).set(Rig.SP, 0));
        Rig.faulty(13, 256 + 32, () -> far(CALL, 3, 7, 256 + 35, 5, 0, true).set(Rig.SP, 0));
        // A JUMP pushes nothing.
        far(JUMP, 0, 7, 32, 4, 0, true).set(Rig.SP, 0).force(Rig.SS, 0).goes().state(Rig.SP, 0);
    }

    /** CALL at level 3 through gate 8 to offset 9 of target; 9 is code of rank 0, 10 a stack of level 0. */
    private static Rig deep(int target) {
        return gate(CALL, 3, 35, 3, true, target).describe(9, Rig.CODE0, 9, 4, 0, true)
            .describe(10, 590, 9, 2, 0, true).memory(Rig.TASK5 + 1, 8, 40);
    }

    private static void deepSelectors() {
        Rig.sentence("A DEEP ENTRY of s at n: 13, 0 if NONE; 13, s if WRONG or no code.");
        for (int s = 0; s <= 3; s++) {
            int none = s;
            Rig.faulty(13, 0, () -> deep(none).describe(0, 590, 9, 4, 0, true));
        }
        for (int s : WRONGS) {
            Rig.faulty(13, s / 4 * 4, () -> deep(s));
            Rig.faulty(13, s / 4 * 4, () -> deep(s).force(Rig.TR, 0));
        }
        for (int kind = 0; kind <= 15; kind++) {
            int its = kind;
            if (kind < 3 || kind > 5) {
                Rig.faulty(13, 36, () -> deep(37).describe(9, 590, 9, its, 0, true));
                // Before the stack, on which nothing could be pushed, is looked at.
                Rig.faulty(13, 36, () -> deep(37).describe(9, 590, 9, its, 3, false).set(Rig.SP, 0));
            }
        }
        deep(39).goes().holds(Rig.CS, 36, 200, 9, 4, 0);
        deep(7).goes().holds(Rig.CS, 4, 200, 60, 4, 0);
        deep(127).describe(31, 200, 9, 3, 0, true).goes().holds(Rig.CS, 124, 200, 9, 3, 0);
    }

    private static void deepOfEveryRank() {
        Rig.sentence("If the kind is not 5 and the rank K is less than the level:");
        for (int level = 0; level <= 3; level++) {
            for (int rank = 0; rank <= 3; rank++) {
                for (int kind = 3; kind <= 5; kind++) {
                    deepOf(level, rank, kind);
                }
            }
        }
    }

    private static void deepOf(int level, int rank, int kind) {
        Rig rig = gate(CALL, level, 35, 3, true, 39).describe(9, Rig.CODE0, 60, kind, rank, true)
            .describe(10, 590, 9, 2, rank, true).memory(Rig.TASK5 + 2 * rank + 1, 8, 40 + rank);
        int outer = rig.x.segment(Rig.SS, 0);
        int selector = rig.x.segment(Rig.CS, 0);
        int stack = rig.x.segment(Rig.SS, 1);
        if (kind != 5 && rank < level) {
            rig.goes().holds(Rig.CS, 36 + rank, 200, 60, kind, rank).holds(Rig.SS, 40 + rank, 590, 9, 2, rank)
                .state(Rig.SP, 4).state(Rig.LEVEL, rank).lies(593, 0, 3, selector, 30, outer, 0).lies(stack + 28, 0, 0);
        } else if (kind == 5 ? rank <= level : rank == level) {
            rig.goes().holds(Rig.CS, 36 + level, 200, 60, kind, rank).holds(Rig.SS, outer).state(Rig.SP, 28)
                .lies(stack + 27, 0, 3, selector, 0).lies(594, 0, 0, 0, 0);
        } else {
            rig.faults(13, 36);
        }
    }

    private static void deepLooksAtCode() {
        Rig.sentence("(s is looked at as for entering it for K)");
        Rig.faulty(11, 36, () -> deep(37).describe(9, Rig.CODE0, 9, 4, 0, false));
        Rig.faulty(11, 36, () -> deep(37).describe(9, Rig.CODE0, 8, 4, 0, false));
        Rig.faulty(13, 0, () -> deep(37).describe(9, Rig.CODE0, 8, 4, 0, true));
        deep(37).describe(9, Rig.CODE0, 9, 3, 0, true).goes().state(Rig.IP, 9);
        // Before the task and its stack are looked at.
        Rig.faulty(11, 36, () -> deep(37).describe(9, Rig.CODE0, 9, 4, 0, false).memory(Rig.TASK5 + 2, 0));
        Rig.faulty(13, 0, () -> deep(37).describe(9, Rig.CODE0, 8, 4, 0, true).memory(Rig.TASK5 + 2, 41));
        Rig.faulty(11, 36, () -> deep(37).describe(9, Rig.CODE0, 9, 4, 0, false).force(Rig.TR, 0));
        Rig.faulty(13, 0, () -> deep(37).describe(9, Rig.CODE0, 8, 4, 0, true).force(Rig.TR, 0));
    }

    private static void deepWithoutTask() {
        Rig.sentence("from the task (TR; 10, 0 if it has none) the words 2 * K + 1 (SP) and 2 * K + 2"
            + " (a selector t for SS) are read:");
        Rig.faulty(10, 0, () -> deep(36).force(Rig.TR, 0));
        // What is not deep needs no task.
        gate(CALL, 3, 35, 3, true, 12).force(Rig.TR, 0).goes().holds(Rig.CS, 15);
    }

    private static void deepStacks() {
        Rig.sentence("10, 0 if t is NONE; 10, t if WRONG, its wish or rank is not K or its kind not 2; 12, t if not there.");
        for (int t = 0; t <= 3; t++) {
            int none = t;
            Rig.faulty(10, 0, () -> deep(36).describe(0, 590, 9, 2, 0, true).memory(Rig.TASK5 + 2, none));
        }
        for (int t : WRONGS) {
            Rig.faulty(10, t / 4 * 4, () -> deep(36).describe(31, 590, 9, 2, 0, true).memory(Rig.TASK5 + 2, t));
        }
        for (int kind = 0; kind <= 15; kind++) {
            for (int wish = 0; wish <= 3; wish++) {
                for (int rank = 0; rank <= 3; rank++) {
                    deepStack(kind, wish, rank);
                }
            }
        }
        deep(36).describe(31, 590, 9, 2, 0, true).memory(Rig.TASK5 + 2, 124).goes().holds(Rig.SS, 124);
        deep(36).describe(1, 590, 9, 2, 0, true).memory(Rig.TASK5 + 2, 4).goes().holds(Rig.SS, 4);
    }

    private static void deepStack(int kind, int wish, int rank) {
        for (int k = 0; k <= 2; k++) {
            int level = k;
            if (kind == 2 && wish == k && rank == k) {
                inner(k, kind, wish, rank, true).goes().holds(Rig.SS, 40 + wish, 590, 9, 2, rank).state(Rig.SP, 4);
                Rig.faulty(12, 40, () -> inner(level, kind, wish, rank, false));
            } else if (kind <= 3) {
                Rig.faulty(10, 40, () -> inner(level, kind, wish, rank, true));
                Rig.faulty(10, 40, () -> inner(level, kind, wish, rank, false));
            } else {
                easily(inner(k, kind, wish, rank, true)).raises(10, 40);
            }
        }
    }

    /** CALL at level 3 to code of rank k, with a stack that may be wrong for it. */
    private static Rig inner(int k, int kind, int wish, int rank, boolean there) {
        return deep(36).describe(9, Rig.CODE0, 9, 4, k, true).describe(10, 590, 9, kind, rank, there)
            .memory(Rig.TASK5 + 2 * k + 1, 8, 40 + wish);
    }

    /** Has easy code take the faults at level 3, as the stack of level 0 may be the bad one. */
    private static Rig easily(Rig rig) {
        rig.describe(11, Rig.CODE0, 60, 5, 0, true);
        for (int v : Rig.FAULT_VECTORS) {
            rig.describe(32 + v, 44, 40 + v, 10, 0, true);
        }
        return rig;
    }

    private static void deepOrder() {
        Rig.sentence("SS and SP become these; the old SS and SP are pushed;");
        // The stack is looked at before it is pushed on, and before the old stack's words are read.
        Rig.faulty(10, 40, () -> deep(36).describe(10, 590, 9, 1, 0, true).memory(Rig.TASK5 + 1, 0));
        Rig.faulty(12, 40, () -> deep(36).describe(10, 590, 9, 2, 0, false).memory(35, 7).set(Rig.SP, 40));
        // 12 for the push of the old SS, though the old stack, which has none, would be 13.
        Rig.faulty(12, 0, () -> deep(36).memory(Rig.TASK5 + 1, 0).memory(35, 1).force(Rig.SS, 0));
        Rig.faulty(12, 0, () -> deep(36).memory(Rig.TASK5 + 1, 1).memory(35, 1).force(Rig.SS, 0));
        Rig.faulty(13, 0, () -> deep(36).memory(Rig.TASK5 + 1, 2).memory(35, 1).force(Rig.SS, 0));
    }

    private static void deepPushes() {
        Rig.sentence("6: a DEEP entry of FIRST at SECOND, with COUNT words and these two.");
        Rig rig = deep(36).memory(35, 3).memory(Rig.STACK3 + 30, 81, 82, 83).set(Rig.FLAGS, 7).force(Rig.DS, 28).goes();
        rig.state(Rig.SP, 1).lies(590, 0, 3, 15, 81, 82, 83, 30, 19, 0).state(Rig.FLAGS, 7).holds(Rig.DS, 28);
        rig.lies(Rig.STACK3 + 28, 0, 0, 81, 82, 83).holds(Rig.TR, 20).lies(22, 72);
        deep(36).force(Rig.SS, 0).goes().lies(594, 3, 15, 30, 0);
        Rig.sentence("then what is to be pushed; then s is entered for K.");
        // What is pushed lies on the table: the old SS, 19, as the word of the code's kind, which is not there then.
        Rig.faulty(11, 36, () -> deep(36).describe(9, Rig.CODE0, 60, 4, 1, true).describe(10, 30, 10, 2, 1, true)
            .memory(Rig.TASK5 + 3, 9, 41));
        // The old stack is also the new one's memory: a word is read before it is written over.
        deep(36).describe(10, Rig.STACK3 + 20, 20, 2, 0, true).memory(Rig.TASK5 + 1, 13, 40).memory(35, 1)
            .memory(Rig.STACK3 + 30, 81).goes().lies(Rig.STACK3 + 28, 3, 15, 81, 30, 19).state(Rig.SP, 8);
    }

    private static void notDeep() {
        Rig.sentence("Otherwise what is to be pushed is pushed, and s is entered for the level.");
        // Pushed first: 12 comes before what entering raises.
        for (int kind = 3; kind <= 5; kind++) {
            int its = kind;
            Rig.faulty(13, 36, () -> gate(CALL, 0, 32, 0, true, 36).describe(9, 590, 9, its, 1, true));
            Rig.faulty(12, 0, () -> gate(CALL, 0, 32, 0, true, 36).describe(9, 590, 9, its, 1, true).set(Rig.SP, 1));
            Rig.faulty(11, 36, () -> gate(CALL, 1, 33, 1, true, 36).describe(9, 590, 9, its, 1, false));
            Rig.faulty(12, 0, () -> gate(CALL, 1, 33, 1, true, 36).describe(9, 590, 9, its, 1, false).set(Rig.SP, 0));
            Rig.faulty(13, 0, () -> gate(CALL, 1, 33, 1, true, 36).describe(9, 590, 8, its, 1, true));
            Rig.faulty(12, 0, () -> gate(CALL, 1, 33, 1, true, 36).describe(9, 590, 8, its, 1, true).set(Rig.SP, 1));
        }
        // But NONE and WRONG come before all pushing.
        Rig.faulty(13, 0, () -> gate(CALL, 0, 32, 0, true, 0).describe(0, 590, 9, 4, 0, true).set(Rig.SP, 0));
        Rig.faulty(13, 128, () -> gate(CALL, 0, 32, 0, true, 128).describe(32, 590, 9, 4, 0, true).set(Rig.SP, 0));
        Rig.faulty(13, 256 + 36, () -> gate(CALL, 0, 32, 0, true, 256 + 36).describe(9, 590, 9, 4, 0, true)
            .set(Rig.SP, 0));
        // No words but the two, whatever COUNT is.
        gate(CALL, 1, 33, 1, true, 36).describe(9, 590, 9, 4, 1, true).memory(35, 7).goes().state(Rig.SP, 28)
            .lies(Rig.STACK3 + 27, 0, 3, 5, 0);
        gate(CALL, 0, 32, 0, true, 36).describe(9, 590, 9, 4, 0, true).set(Rig.SP, 2).goes().state(Rig.SP, 0);
    }
}
