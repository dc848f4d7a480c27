/** Terms: TRAP, and BACK with NESTED up to its switch: each fault with its code, and which comes first. */
public final class TrapEdgesTest {
    private static final int TRAP = Rig.op(18, 0, 0), BACK = Rig.op(19, 0, 0);
    private static final int[] WRONGS = {128, 131, 160, 256 + 32, 65535};

    public static void main(String[] args) {
        vectorsThatAreNone();
        vectorsThatAre();
        gatesOfOtherKinds();
        gatesOfEveryRank();
        gatesInOrder();
        trapGates();
        trapGateTargets();
        nestedIsNotSet();
        taskGates();
        backWithoutTask();
        backToWord0();
        Rig.finish();
    }

    private static void vectorsThatAreNone() {
        Rig.sentence("TRAP n: 13, 4 * (32 + n) if n is above 15;");
        for (int n : new int[] {16, 17, 127, 16351, 16352, 32767, 65535}) {
            int code = 4 * (32 + n) % 65536;
            Rig.faulty(13, code, () -> Rig.level0("TRAP " + n).memory(192, 4, 9, 74).code(TRAP, n));
            Rig.faulty(13, code, () -> Rig.level3("TRAP " + n + " at level 3").memory(192, 4, 9, 122).code(TRAP, n));
        }
    }

    private static void vectorsThatAre() {
        for (int n = 0; n <= 15; n++) {
            Rig.level0("TRAP " + n).describe(32 + n, 4, 9 + n, 10, 0, true).set(Rig.FLAGS, 7).code(TRAP, n).goes()
                .state(Rig.IP, 9 + n).holds(Rig.CS, 4).state(Rig.SP, 27).lies(Rig.STACK0 + 26, 0, 2, 4, 7, 0)
                .state(Rig.FLAGS, 3);
        }
    }

    private static void gatesOfOtherKinds() {
        Rig.sentence("with e = 4 * (32 + n): 13, e if the kind is not 9 or 10, or the rank is less than the level;"
            + " 11, e if not there.");
        for (int kind = 0; kind <= 15; kind++) {
            if (kind != 9 && kind != 10) {
                int its = kind;
                Rig.faulty(13, 128, () -> Rig.level0("kind " + its).describe(32, 4, 9, its, 3, true).code(TRAP, 0));
                Rig.faulty(13, 188, () -> Rig.level3("kind " + its).describe(47, 4, 9, its, 3, false).code(TRAP, 15));
            }
        }
    }

    private static void gatesOfEveryRank() {
        for (int level = 0; level <= 3; level++) {
            for (int rank = 0; rank <= 3; rank++) {
                int its = level;
                int other = rank;
                if (rank < level) {
                    for (int kind = 9; kind <= 10; kind++) {
                        int gate = kind;
                        Rig.faulty(13, 188, () -> trap(its, gate, other, true, gate == 9 ? 24 : 36));
                        Rig.faulty(13, 188, () -> trap(its, gate, other, false, gate == 9 ? 24 : 36));
                    }
                } else {
                    trap(level, 10, rank, true, 36).goes().state(Rig.IP, 9).state(Rig.LEVEL, level);
                    trap(level, 9, rank, true, 24).goes().holds(Rig.TR, 24).state(Rig.IP, 33);
                    Rig.faulty(11, 188, () -> trap(its, 10, other, false, 36));
                    Rig.faulty(11, 188, () -> trap(its, 9, other, false, 24));
                }
            }
        }
    }

    /** TRAP 15 at a level by a gate to target; 9 is easy code, 6 a task that goes on at level 3. */
    private static Rig trap(int level, int kind, int rank, boolean there, int target) {
        return Rig.at(level, "TRAP at " + level + " by kind " + kind + " of rank " + rank + " to " + target)
            .describe(47, target, 9, kind, rank, there).describe(9, 590, 9, 5, 0, true)
            .memory(Rig.TASK6 + 7, 33, 3, 21, 22, 23, 24, 25, 15, 0, 0, 19).code(TRAP, 15);
    }

    private static void gatesInOrder() {
        // The gate is looked at before what it leads to.
        Rig.faulty(13, 188, () -> trap(3, 10, 2, false, 3));
        Rig.faulty(11, 188, () -> trap(3, 10, 3, false, 131));
        Rig.faulty(11, 188, () -> trap(3, 9, 3, false, 131));
        Rig.faulty(11, 188, () -> trap(3, 10, 3, false, 36).set(Rig.SP, 0));
    }

    private static void trapGates() {
        Rig.sentence("10: a deep entry of FIRST at SECOND with FLAGS, CS's selector and IP, without other words;"
            + " then NESTED is not set.");
        // FOURTH, 7, is no COUNT here.
        trap(3, 10, 3, true, 39).memory(191, 7).set(Rig.FLAGS, 6).goes().holds(Rig.CS, 39, 590, 9, 5, 0)
            .state(Rig.SP, 27).lies(Rig.STACK3 + 26, 0, 2, 15, 6, 0).state(Rig.FLAGS, 2);
        trap(3, 10, 3, true, 7).memory(191, 7).set(Rig.FLAGS, 5).goes().holds(Rig.CS, 4).holds(Rig.SS, 8)
            .state(Rig.SP, 30).lies(Rig.STACK0 + 29, 0, 2, 15, 5, 30, 19, 0).state(Rig.FLAGS, 1);
        trap(1, 10, 3, true, 7).set(Rig.FLAGS, 4).goes().holds(Rig.CS, 4).state(Rig.FLAGS, 0)
            .lies(Rig.STACK0 + 30, 2, 5, 4, 30, 19);
    }

    private static void trapGateTargets() {
        for (int s = 0; s <= 3; s++) {
            int none = s;
            Rig.faulty(13, 0, () -> trap(0, 10, 0, true, none).describe(0, 590, 9, 5, 0, true));
        }
        for (int s : WRONGS) {
            Rig.faulty(13, s / 4 * 4, () -> trap(0, 10, 0, true, s));
        }
        for (int kind = 0; kind <= 15; kind++) {
            if (kind < 3 || kind > 5) {
                int its = kind;
                Rig.faulty(13, 36, () -> trap(0, 10, 0, true, 37).describe(9, 590, 9, its, 0, true));
                Rig.faulty(13, 36, () -> trap(3, 10, 3, true, 37).describe(9, 590, 9, its, 0, false).set(Rig.SP, 0));
            }
        }
        Rig.faulty(13, 36, () -> trap(0, 10, 0, true, 36).describe(9, 590, 9, 5, 1, true));
        Rig.faulty(13, 36, () -> trap(2, 10, 3, true, 36).describe(9, 590, 9, 4, 3, true));
        Rig.faulty(11, 36, () -> trap(0, 10, 0, true, 36).describe(9, 590, 9, 5, 0, false));
        Rig.faulty(13, 0, () -> trap(0, 10, 0, true, 36).describe(9, 590, 8, 5, 0, true));
        Rig.faulty(12, 0, () -> trap(0, 10, 0, true, 36).describe(9, 590, 8, 5, 0, true).set(Rig.SP, 2));
        Rig.faulty(10, 0, () -> trap(3, 10, 3, true, 4).force(Rig.TR, 0));
        Rig.faulty(10, 0, () -> trap(3, 10, 3, true, 4).memory(Rig.TASK5 + 2, 3));
        Rig.faulty(10, 128, () -> trap(3, 10, 3, true, 4).memory(Rig.TASK5 + 2, 128));
        Rig.faulty(12, 8, () -> trap(3, 10, 3, true, 4).describe(2, Rig.STACK0, 40, 2, 0, false));
    }

    private static void nestedIsNotSet() {
        Rig.sentence("then NESTED is not set.");
        for (int flags = 0; flags <= 7; flags++) {
            trap(0, 10, 0, true, 36).set(Rig.FLAGS, flags).goes().state(Rig.FLAGS, flags % 4).lies(Rig.STACK0 + 29, flags);
            trap(3, 10, 3, true, 4).set(Rig.FLAGS, flags).goes().state(Rig.FLAGS, flags % 4).lies(Rig.STACK0 + 32, flags);
        }
    }

    private static void taskGates() {
        Rig.sentence("9: a switch to FIRST that nests.");
        trap(3, 9, 3, true, 27).set(Rig.FLAGS, 2).goes().holds(Rig.TR, 27, 490, 40, 8, 0).state(Rig.FLAGS, 7)
            .lies(Rig.TASK6, 20).lies(22, 72).lies(26, 72).lies(Rig.TASK5 + 7, 2, 2).state(Rig.SP, 25);
        for (int s = 0; s <= 3; s++) {
            int none = s;
            Rig.faulty(13, 0, () -> trap(0, 9, 0, true, none).describe(0, 490, 40, 7, 0, true));
        }
        for (int s : WRONGS) {
            Rig.faulty(13, s / 4 * 4, () -> trap(0, 9, 0, true, s));
        }
        Rig.faulty(13, 20, () -> trap(0, 9, 0, true, 20));
        Rig.faulty(13, 36, () -> trap(0, 9, 0, true, 39));
    }

    private static void backWithoutTask() {
        Rig.sentence("BACK: if NESTED is set, a switch BACK to word 0 of the task (10, 0 if TR has none).");
        for (int flags = 4; flags <= 7; flags++) {
            int its = flags;
            Rig.faulty(10, 0, () -> Rig.level0("no task").force(Rig.TR, 0).set(Rig.FLAGS, its).code(BACK));
            Rig.faulty(10, 0, () -> Rig.level3("no task at level 3").force(Rig.TR, 0).set(Rig.FLAGS, its).code(BACK));
        }
        // Without NESTED no task is needed, and without a stack it is needed alone.
        Rig.level0("no NESTED").force(Rig.TR, 0).set(Rig.FLAGS, 3).memory(Rig.STACK0 + 30, 9, 4, 1).code(BACK).goes()
            .state(Rig.IP, 9);
        back(24).force(Rig.SS, 0).goes().holds(Rig.TR, 24);
    }

    /** BACK with NESTED to selector s, which is word 0 of the task; 6 is a busy task that goes on at level 3. */
    private static Rig back(int s) {
        return Rig.level0("BACK to " + s).describe(6, Rig.TASK6, 40, 8, 0, true).memory(Rig.TASK5, s).set(Rig.FLAGS, 4)
            .memory(Rig.TASK6 + 7, 33, 3, 21, 22, 23, 24, 25, 15, 0, 0, 19).code(BACK);
    }

    private static void backToWord0() {
        for (int s = 0; s <= 3; s++) {
            int none = s;
            Rig.faulty(13, 0, () -> back(none).describe(0, Rig.TASK6, 40, 8, 0, true));
        }
        for (int s : WRONGS) {
            Rig.faulty(13, s / 4 * 4, () -> back(s).describe(8, Rig.TASK6, 40, 8, 0, true));
        }
        for (int wish = 0; wish <= 3; wish++) {
            back(24 + wish).goes().holds(Rig.TR, 24 + wish, 490, 40, 8, 0).state(Rig.FLAGS, 3).lies(22, 71)
                .lies(Rig.TASK5 + 7, 1, 0);
        }
        back(124).describe(31, Rig.TASK6, 17, 8, 3, true).goes().holds(Rig.TR, 124, 490, 17, 8, 3);
        // A task of limit 0 has its word 0.
        back(24).describe(5, Rig.TASK5, 0, 8, 0, true).force(Rig.TR, 20).goes().holds(Rig.TR, 24);
    }
}
