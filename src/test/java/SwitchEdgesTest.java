/** Terms: a SWITCH by JUMP, CALL and BACK: each fault with its code, which comes first, and what is saved and taken. */
public final class SwitchEdgesTest {
    private static final int JUMP = Rig.op(15, 0, 0), CALL = Rig.op(16, 0, 0), BACK = Rig.op(19, 0, 0);
    private static final int[] WAYS = {JUMP, CALL, BACK};
    private static final int[] WRONGS = {128, 131, 160, 256 + 32, 65535};

    public static void main(String[] args) {
        ranks();
        gateRanks();
        selectors();
        kinds();
        notThere();
        small();
        withoutTask();
        inOrder();
        savesAll();
        savesUpToTheLimit();
        freesTheOldTask();
        makesTheNewTaskBusy();
        nests();
        takesAll();
        newLimitIsNotLookedAt();
        entersTheCode();
        loadsTheSegments();
        loadsInOrder();
        Rig.finish();
    }

    /** A switch to selector s, by a task gate in 8 or by word 0 of the task; 6 is a task that goes on at level 3. */
    private static Rig to(int way, int s) {
        Rig rig = Rig.level0("a switch by " + way / 64 + " to " + s)
            .describe(6, Rig.TASK6, 40, way == BACK ? 8 : 7, 0, true).memory(Rig.TASK6, 999)
            .memory(Rig.TASK6 + 7, 33, 2, 21, 22, 23, 24, 25, 15, 28, 31, 19)
            .set(Rig.A, 11).set(Rig.B, 12).set(Rig.C, 13).set(Rig.X, 14).force(Rig.DS, 9).force(Rig.ES, 30);
        if (way == BACK) {
            return rig.memory(Rig.TASK5, s).set(Rig.FLAGS, 5).code(BACK);
        }
        return rig.describe(8, s, 65535, 9, 0, true).set(Rig.FLAGS, 1).code(way, 65535, 32);
    }

    private static int free(int way) {
        return way == BACK ? 8 : 7;
    }

    private static void ranks() {
        Rig.sentence("7, 9: ranks and there as for 6; then a SWITCH to m, or to FIRST.");
        for (int way : new int[] {JUMP, CALL}) {
            for (int level = 0; level <= 3; level++) {
                for (int wish = 0; wish <= 3; wish++) {
                    for (int rank = 0; rank <= 3; rank++) {
                        task(way, level, wish, rank, rank >= level && rank >= wish);
                    }
                }
            }
        }
    }

    private static Rig direct(int way, int level, int wish, int rank, boolean there) {
        return Rig.at(level, "a switch by " + way / 64 + " at " + level + " to a task of rank " + rank)
            .describe(6, Rig.TASK6, 17, 7, rank, there).memory(Rig.TASK6 + 7, 33, 2, 21, 22, 23, 24, 25, 15, 28, 31, 19)
            .code(way, 65535, 24 + wish);
    }

    private static void task(int way, int level, int wish, int rank, boolean fine) {
        if (fine) {
            direct(way, level, wish, rank, true).goes().holds(Rig.TR, 24 + wish, 490, 17, 8, rank).state(Rig.IP, 33);
            direct(way, level, wish, rank, false).faults(11, 24);
        } else {
            Rig.faulty(13, 24, () -> direct(way, level, wish, rank, true));
            direct(way, level, wish, rank, false).faults(13, 24);
        }
    }

    private static void gateRanks() {
        for (int way : new int[] {JUMP, CALL}) {
            for (int level = 0; level <= 3; level++) {
                for (int wish = 0; wish <= 3; wish++) {
                    for (int rank = 0; rank <= 3; rank++) {
                        gate(way, level, wish, rank, rank >= level && rank >= wish);
                    }
                }
            }
        }
    }

    /** The rank and the wish of the task that the gate leads to do not count. */
    private static void gate(int way, int level, int wish, int rank, boolean fine) {
        for (int there = 0; there <= 1; there++) {
            Rig rig = direct(way, level, 0, 0, true).describe(8, 27, 65535, 9, rank, there == 1)
                .code(way, 65535, 32 + wish);
            if (!fine) {
                rig.faults(13, 32);
            } else if (there == 1) {
                rig.goes().holds(Rig.TR, 27, 490, 17, 8, 0);
            } else {
                rig.faults(11, 32);
            }
        }
    }

    private static void selectors() {
        Rig.sentence("A SWITCH to s: 13, 0 if NONE; 13, s if WRONG, or the kind is not 7 (BACK: 8);");
        for (int way : WAYS) {
            for (int s = 0; s <= 3; s++) {
                int none = s;
                Rig.faulty(13, 0, () -> to(way, none).describe(0, Rig.TASK6, 40, free(way), 0, true));
            }
            for (int s : WRONGS) {
                Rig.faulty(13, s / 4 * 4, () -> to(way, s));
            }
            to(way, 124).describe(31, Rig.TASK6, 17, free(way), 0, true).goes().holds(Rig.TR, 124, 490, 17, 8, 0);
            to(way, 7).describe(1, Rig.TASK6, 17, free(way), 3, true).goes().holds(Rig.TR, 7, 490, 17, 8, 3);
        }
    }

    private static void kinds() {
        for (int way : WAYS) {
            for (int kind = 0; kind <= 15; kind++) {
                int its = kind;
                if (kind == free(way)) {
                    to(way, 26).describe(6, Rig.TASK6, 17, kind, 0, true).goes().holds(Rig.TR, 26, 490, 17, 8, 0);
                } else {
                    Rig.faulty(13, 24, () -> to(way, 26).describe(6, Rig.TASK6, 40, its, 0, true));
                    Rig.faulty(13, 24, () -> to(way, 26).describe(6, Rig.TASK6, 16, its, 0, false));
                }
            }
        }
        // The busy task that runs is no free one.
        Rig.faulty(13, 20, () -> to(JUMP, 20));
        Rig.faulty(13, 20, () -> to(CALL, 20));
    }

    private static void notThere() {
        Rig.sentence("11, s if not there;");
        for (int way : WAYS) {
            Rig.faulty(11, 24, () -> to(way, 27).describe(6, Rig.TASK6, 40, free(way), 0, false));
        }
    }

    private static void small() {
        Rig.sentence("10, s if its limit is below 17;");
        for (int way : WAYS) {
            for (int limit : new int[] {0, 1, 7, 15, 16}) {
                Rig.faulty(10, 24, () -> to(way, 25).describe(6, Rig.TASK6, limit, free(way), 0, true));
            }
            for (int limit : new int[] {17, 18, 65535}) {
                to(way, 25).describe(6, Rig.TASK6, limit, free(way), 0, true).goes().holds(Rig.TR, 25, 490, limit, 8, 0);
            }
        }
    }

    private static void withoutTask() {
        Rig.sentence("10, 0 if TR has none.");
        for (int way : WAYS) {
            Rig.faulty(10, 0, () -> to(way, 24).force(Rig.TR, 0));
        }
    }

    private static void inOrder() {
        Rig.sentence("13, s if WRONG, or the kind is not 7 (BACK: 8); 11, s if not there; 10, s if its limit is below 17;"
            + " 10, 0 if TR has none.");
        for (int way : WAYS) {
            Rig.faulty(11, 24, () -> to(way, 24).describe(6, Rig.TASK6, 16, free(way), 0, false));
        }
        for (int way : new int[] {JUMP, CALL}) {
            Rig.faulty(13, 0, () -> to(way, 3).force(Rig.TR, 0));
            Rig.faulty(13, 128, () -> to(way, 131).force(Rig.TR, 0));
            Rig.faulty(13, 24, () -> to(way, 24).describe(6, Rig.TASK6, 16, 9, 0, false).force(Rig.TR, 0));
            Rig.faulty(11, 24, () -> to(way, 24).describe(6, Rig.TASK6, 16, 7, 0, false).force(Rig.TR, 0));
            Rig.faulty(10, 24, () -> to(way, 24).describe(6, Rig.TASK6, 16, 7, 0, true).force(Rig.TR, 0));
            // All of them come before what the new task's words would raise.
            Rig.faulty(10, 0, () -> to(way, 24).memory(Rig.TASK6 + 14, 131).force(Rig.TR, 0));
            Rig.faulty(10, 24, () -> to(way, 24).describe(6, Rig.TASK6, 16, 7, 0, true).memory(Rig.TASK6 + 14, 131));
        }
    }

    private static void savesAll() {
        Rig.sentence("IP, FLAGS (without NESTED when BACK), A, B, C, X, SP and the selectors of CS, DS, ES, SS (0 for none)"
            + " become the words 7 .. 17 of the old task, in this order (by its base; lost beyond its limit).");
        for (int way : WAYS) {
            int behind = way == BACK ? 1 : 3;
            Rig rig = to(way, 24).memory(Rig.TASK5 + 6, 777).memory(Rig.TASK5 + 18, 778).goes();
            rig.lies(Rig.TASK5 + 6, 777, behind, 1, 11, 12, 13, 14, 30, 4, 9, 30, 8, 778);
            to(way, 24).memory(Rig.TASK5 + 15, 5, 5, 5).force(Rig.DS, 0).force(Rig.ES, 3).force(Rig.SS, 0).goes()
                .lies(Rig.TASK5 + 14, 4, 0, 0, 0);
            for (int flags = way == BACK ? 4 : 0; flags <= 7; flags++) {
                to(way, 24).set(Rig.FLAGS, flags).goes().lies(Rig.TASK5 + 8, way == BACK ? flags % 4 : flags);
            }
        }
    }

    private static void savesUpToTheLimit() {
        for (int way : WAYS) {
            int[] saved = {way == BACK ? 1 : 3, 1, 11, 12, 13, 14, 30, 4, 9, 30, 8};
            for (int limit : new int[] {0, 6, 7, 8, 9, 10, 11, 12, 13, 14, 15, 16, 17, 65535}) {
                // The limit of the descriptor is another by then: what TR was loaded with counts.
                Rig rig = to(way, 24).describe(5, Rig.TASK5, limit, 8, 0, true).force(Rig.TR, 20)
                    .describe(5, Rig.TASK5 + 1, 12, 8, 0, true).goes();
                for (int word = 7; word <= 17; word++) {
                    rig.lies(Rig.TASK5 + word, word <= limit ? saved[word - 7] : 0);
                }
            }
        }
    }

    private static void freesTheOldTask() {
        Rig.sentence("Unless it nests, the old task's descriptor becomes free.");
        for (int way : WAYS) {
            int kind = way == CALL ? 8 : 7;
            for (int rank = 0; rank <= 3; rank++) {
                to(way, 24).describe(5, Rig.TASK5, 40, 8, rank, false).goes().lies(20, 440, 40, kind + 16 * rank, 0);
            }
            // All but the kind stays.
            to(way, 24).memory(22, 65528, 65535).goes().lies(22, 65520 + kind, 65535);
            to(way, 24).force(Rig.TR, 23).goes().lies(22, 64 + kind);
        }
    }

    private static void makesTheNewTaskBusy() {
        Rig.sentence("The new one becomes busy; TR becomes s (as its descriptor is then);");
        for (int way : WAYS) {
            for (int wish = 0; wish <= 3; wish++) {
                to(way, 24 + wish).describe(6, Rig.TASK6, 40, free(way), wish, true).goes()
                    .holds(Rig.TR, 24 + wish, 490, 40, 8, wish).lies(24, 490, 40, 8 + 16 * wish + 64, 0);
            }
            to(way, 24).memory(26, 65520 + free(way), 65535).goes().lies(26, 65528, 65535)
                .holds(Rig.TR, 24, 490, 40, 8, 3);
        }
        // A task that is free though it runs is switched to itself, and is busy then.
        to(JUMP, 24).force(Rig.DS, 8).force(Rig.TR, 25).goes().holds(Rig.TR, 24, 490, 40, 8, 0).lies(26, 72).state(Rig.A, 11);
        to(CALL, 24).force(Rig.DS, 8).force(Rig.TR, 25).goes().holds(Rig.TR, 24, 490, 40, 8, 0).lies(26, 72).lies(Rig.TASK6, 25);
        to(BACK, 20).force(Rig.DS, 8).goes().holds(Rig.TR, 20, 440, 40, 8, 0).lies(22, 72).state(Rig.FLAGS, 1);
    }

    private static void nests() {
        Rig.sentence("7, 9: a switch that NESTS.");
        for (int flags = 0; flags <= 3; flags++) {
            direct(CALL, 3, 0, 3, true).memory(Rig.TASK6 + 8, flags).goes().state(Rig.FLAGS, 4 + flags).lies(22, 72)
                .lies(Rig.TASK6, 20);
            to(CALL, 24).memory(Rig.TASK6 + 8, flags).goes().state(Rig.FLAGS, 4 + flags).lies(22, 72).lies(Rig.TASK6, 20);
            direct(JUMP, 3, 0, 3, true).memory(Rig.TASK6 + 8, flags).goes().state(Rig.FLAGS, flags).lies(22, 71);
        }
        Rig.sentence("if it nests, word 0 of the new task becomes the selector that TR had.");
        for (int wish = 0; wish <= 3; wish++) {
            to(CALL, 24).force(Rig.TR, 20 + wish).goes().lies(Rig.TASK6, 20 + wish).lies(Rig.TASK5, 0);
        }
        to(CALL, 24).describe(31, Rig.TASK5, 40, 8, 0, true).force(Rig.TR, 127).goes().lies(Rig.TASK6, 127);
        // Before CS is entered: word 0 lies on the third word of its descriptor, and 84 is code of rank 1 that is there.
        Rig.level0("word 0 on the table").describe(6, 38, 17, 7, 0, true).describe(9, Rig.CODE0, 60, 0, 0, false)
            .describe(21, Rig.TASK5, 40, 8, 0, true).force(Rig.TR, 84).describe(15, 590, 9, 2, 1, true)
            .memory(38 + 7, 33, 2, 21, 22, 23, 24, 25, 37, 0, 0, 61).code(CALL, 0, 24).goes()
            .holds(Rig.CS, 37, 200, 60, 4, 1).holds(Rig.SS, 61).lies(38, 84);
        to(JUMP, 24).goes().lies(Rig.TASK6, 999);
        to(BACK, 24).goes().lies(Rig.TASK6, 999);
    }

    private static void takesAll() {
        Rig.sentence("All these are taken from the words 7 .. 17 of the new task (by its base, its limit not being looked at"
            + " any more) (FLAGS modulo 8, and NESTED if it nests)");
        for (int way : WAYS) {
            to(way, 24).goes().state(Rig.IP, 33).state(Rig.FLAGS, way == CALL ? 6 : 2).state(Rig.A, 21).state(Rig.B, 22)
                .state(Rig.C, 23).state(Rig.X, 24).state(Rig.SP, 25).holds(Rig.CS, 15, 320, 60, 4, 3)
                .holds(Rig.DS, 28, 540, 40, 2, 3).holds(Rig.ES, 31, 540, 40, 2, 3).holds(Rig.SS, 19, 390, 40, 2, 3)
                .state(Rig.LEVEL, 3).lies(Rig.TASK6 + 7, 33, 2, 21, 22, 23, 24, 25, 15, 28, 31, 19);
            for (int flags : new int[] {0, 3, 4, 7, 8, 11, 65528, 65535}) {
                int nested = way == CALL ? 4 : flags & 4;
                to(way, 24).memory(Rig.TASK6 + 8, flags).goes().state(Rig.FLAGS, (flags & 3) + nested);
            }
            to(way, 24).memory(Rig.TASK6 + 9, 65535, 0, 65535, 0, 65535).goes().state(Rig.A, 65535).state(Rig.B, 0)
                .state(Rig.C, 65535).state(Rig.X, 0).state(Rig.SP, 65535);
        }
    }

    private static void newLimitIsNotLookedAt() {
        Rig.sentence("(by its base, its limit not being looked at any more)");
        // The old task's A and FLAGS are saved as the new one's SECOND and the like: only the kind is set afterwards.
        Rig.level0("a limit that saving makes 3").describe(8, Rig.TASK6, 40, 7, 0, true)
            .describe(5, 26, 40, 8, 0, true).force(Rig.TR, 20).code(JUMP, 0, 32)
            .memory(Rig.TASK6 + 7, 33, 2, 21, 22, 23, 24, 25, 15, 0, 0, 19).goes()
            .holds(Rig.TR, 32, 490, 3, 8, 0).state(Rig.A, 21).holds(Rig.SS, 19);
    }

    private static void entersTheCode() {
        Rig.sentence("CS is entered at IP for its wish, then SS, DS, ES are loaded.");
        for (int way : WAYS) {
            for (int c = 0; c <= 3; c++) {
                int none = c;
                Rig.faulty(13, 0, () -> to(way, 24).memory(Rig.TASK6 + 14, none).describe(0, 320, 60, 4, none, true));
            }
            for (int c : WRONGS) {
                Rig.faulty(13, c / 4 * 4, () -> to(way, 24).memory(Rig.TASK6 + 14, c));
            }
            Rig.faulty(11, 12, () -> to(way, 24).describe(3, 320, 32, 4, 3, false));
            Rig.faulty(13, 0, () -> to(way, 24).describe(3, 320, 32, 4, 3, true));
            to(way, 24).describe(3, 320, 33, 4, 3, true).goes().state(Rig.IP, 33);
            for (int wish = 0; wish <= 3; wish++) {
                for (int rank = 0; rank <= 3; rank++) {
                    for (int kind = 2; kind <= 6; kind++) {
                        code(way, kind, wish, rank);
                    }
                }
            }
        }
    }

    private static void code(int way, int kind, int wish, int rank) {
        Rig rig = to(way, 24).describe(9, 590, 40, kind, rank, true).describe(10, 600, 9, 2, wish, true)
            .memory(Rig.TASK6 + 14, 36 + wish, 0, 0, 40 + wish);
        if (kind == 5 ? rank <= wish : (kind == 3 || kind == 4) && rank == wish) {
            rig.goes().holds(Rig.CS, 36 + wish, 590, 40, kind, rank).state(Rig.LEVEL, wish).holds(Rig.SS, 40 + wish);
        } else {
            rig.faults(13, 36);
        }
    }

    private static void loadsTheSegments() {
        for (int way : WAYS) {
            for (int s = 0; s <= 3; s++) {
                int none = s;
                Rig.faulty(13, 0, () -> to(way, 24).memory(Rig.TASK6 + 17, none));
                to(way, 24).memory(Rig.TASK6 + 15, s, s).goes().holds(Rig.DS, 0, 0, 0, 0, 0).holds(Rig.ES, 0, 0, 0, 0, 0);
            }
            for (int s : WRONGS) {
                for (int word = 15; word <= 17; word++) {
                    int its = word;
                    Rig.faulty(13, s / 4 * 4, () -> to(way, 24).memory(Rig.TASK6 + its, s));
                }
            }
            // The level is the new one's, 3: rank 2 is too little, and the stack's wish and rank are 3.
            Rig.faulty(13, 36, () -> to(way, 24).describe(9, 590, 9, 2, 2, true).memory(Rig.TASK6 + 15, 36));
            Rig.faulty(13, 36, () -> to(way, 24).describe(9, 590, 9, 2, 2, true).memory(Rig.TASK6 + 16, 36));
            Rig.faulty(13, 36, () -> to(way, 24).describe(9, 590, 9, 2, 2, true).memory(Rig.TASK6 + 17, 39));
            Rig.faulty(13, 16, () -> to(way, 24).memory(Rig.TASK6 + 17, 18));
            Rig.faulty(12, 36, () -> to(way, 24).describe(9, 590, 9, 2, 3, false).memory(Rig.TASK6 + 17, 39));
            Rig.faulty(11, 36, () -> to(way, 24).describe(9, 590, 9, 2, 3, false).memory(Rig.TASK6 + 15, 39));
            Rig.faulty(11, 36, () -> to(way, 24).describe(9, 590, 9, 2, 3, false).memory(Rig.TASK6 + 16, 36));
            to(way, 24).describe(9, 590, 9, 5, 0, true).memory(Rig.TASK6 + 15, 39, 36).goes().holds(Rig.DS, 39)
                .holds(Rig.ES, 36);
        }
    }

    private static void loadsInOrder() {
        for (int way : WAYS) {
            Rig.faulty(13, 128, () -> to(way, 24).memory(Rig.TASK6 + 14, 128, 132, 136, 140));
            Rig.faulty(13, 140, () -> to(way, 24).memory(Rig.TASK6 + 15, 132, 136, 140));
            Rig.faulty(13, 132, () -> to(way, 24).memory(Rig.TASK6 + 15, 132, 136));
            Rig.faulty(13, 136, () -> to(way, 24).memory(Rig.TASK6 + 16, 136));
            // 13, 0 for IP comes before what SS would raise.
            Rig.faulty(13, 0, () -> to(way, 24).memory(Rig.TASK6 + 7, 61).memory(Rig.TASK6 + 17, 140));
        }
    }
}
