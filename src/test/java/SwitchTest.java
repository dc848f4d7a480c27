/** Promise 7: the switch of tasks by JUMP, CALL, TRAP and BACK. */
public final class SwitchTest {
    private static final int JUMP = Rig.op(15, 0, 0);
    private static final int CALL = Rig.op(16, 0, 0);
    private static final int TRAP = Rig.op(18, 0, 0);
    private static final int BACK = Rig.op(19, 0, 0);

    public static void main(String[] args) {
        jumps();
        nests();
        goesBack();
        gates();
        refusals();
        backRefusals();
        limits();
        whatIsTaken();
        sameTask();
        Rig.finish();
    }

    /** Registers and segments that differ from one another, and a task 6 that differs from them. */
    private static Rig rig(String name, int... code) {
        return Rig.level0(name).code(code).set(Rig.A, 11).set(Rig.B, 12).set(Rig.C, 13).set(Rig.X, 14)
            .set(Rig.FLAGS, 1).force(Rig.DS, 8).force(Rig.ES, 31)
            .memory(Rig.TASK6, 999).memory(Rig.TASK6 + 7, 33, 10, 21, 22, 23, 24, 25, 15, 28, 19, 19);
    }

    private static Rig runsTask6(Rig rig, int flags) {
        return rig.holds(Rig.CS, 15, 320, 60, 4, 3).holds(Rig.DS, 28).holds(Rig.ES, 19).holds(Rig.SS, 19)
            .state(Rig.IP, 33).state(Rig.FLAGS, flags).state(Rig.A, 21).state(Rig.B, 22).state(Rig.C, 23)
            .state(Rig.X, 24).state(Rig.SP, 25).state(Rig.LEVEL, 3)
            .lies(Rig.TASK6 + 7, 33, 10, 21, 22, 23, 24, 25, 15, 28, 19, 19);
    }

    private static void jumps() {
        Rig rig = rig("JUMP to a task", JUMP, 99, 24).goes();
        runsTask6(rig, 2).holds(Rig.TR, 24, 490, 40, 8, 0).lies(22, 71).lies(26, 72).lies(Rig.TASK6, 999);
        rig.lies(Rig.TASK5 + 6, 0, 3, 1, 11, 12, 13, 14, 30, 4, 8, 31, 8, 0);
        rig = rig("JUMP with NESTED", JUMP, 99, 24).set(Rig.FLAGS, 7).goes().lies(Rig.TASK5 + 8, 7).state(Rig.FLAGS, 2);
        rig("JUMP to flags with NESTED", JUMP, 99, 24).memory(Rig.TASK6 + 8, 65532).goes().state(Rig.FLAGS, 4);
        rig("JUMP, there of old tasks stays", JUMP, 99, 24).memory(22, 65528).memory(26, 65527 - 32).goes()
            .lies(22, 65527).lies(26, 65528 - 32).holds(Rig.TR, 24, 490, 40, 8, 1);
    }

    private static void nests() {
        Rig rig = rig("CALL of a task", CALL, 99, 24).force(Rig.TR, 22).goes();
        runsTask6(rig, 6).holds(Rig.TR, 24, 490, 40, 8, 0).lies(22, 72).lies(26, 72).lies(Rig.TASK6, 22);
        rig.lies(Rig.TASK5 + 7, 3, 1, 11, 12, 13, 14, 30, 4, 8, 31, 8).lies(Rig.TASK5, 0);
        rig = rig("TRAP by a task gate", TRAP, 3).describe(35, 25, 0, 9, 0, true).goes();
        runsTask6(rig, 6).holds(Rig.TR, 25, 490, 40, 8, 0).lies(Rig.TASK6, 20).lies(22, 72).lies(Rig.TASK5 + 7, 2);
    }

    private static void goesBack() {
        Rig rig = rig("CALL and BACK", CALL, 99, 24).memory(Rig.CODE3 + 33, Rig.op(1, 0, 0), 77, BACK).goes().goes().goes();
        rig.holds(Rig.TR, 20, 440, 40, 8, 0).lies(22, 72).lies(26, 71).lies(Rig.TASK6, 20);
        rig.holds(Rig.CS, 4).holds(Rig.DS, 8).holds(Rig.ES, 31).holds(Rig.SS, 8);
        rig.state(Rig.IP, 3).state(Rig.FLAGS, 1).state(Rig.A, 11).state(Rig.X, 14).state(Rig.SP, 30);
        // What BACK leaves is saved without NESTED.
        rig.lies(Rig.TASK6 + 7, 36, 2, 77, 22, 23, 24, 25, 15, 28, 19, 19);
        rig = rig("BACK to a nested task", BACK).set(Rig.FLAGS, 6).memory(Rig.TASK5, 26).describe(6, 490, 40, 8, 0, true);
        runsTask6(rig.memory(Rig.TASK6 + 8, 10).goes(), 2).holds(Rig.TR, 26, 490, 40, 8, 0).lies(22, 71).lies(Rig.TASK5 + 8, 2);
        rig("BACK to flags with NESTED", BACK).set(Rig.FLAGS, 6).memory(Rig.TASK5, 24).describe(6, 490, 40, 8, 0, true)
            .memory(Rig.TASK6 + 8, 4).goes().state(Rig.FLAGS, 4);
    }

    private static void gates() {
        for (int operation : new int[] {JUMP, CALL}) {
            int nested = operation == CALL ? Rig.NESTED : 0;
            Rig rig = rig("a task gate", operation, 99, 35).describe(8, 26, 0, 9, 3, true).goes();
            runsTask6(rig, 2 + nested).holds(Rig.TR, 26, 490, 40, 8, 0).lies(22, 71 + nested / 4);
            rig("a gate's rank", operation, 99, 35).describe(8, 24, 0, 9, 2, false).faults(13, 32);
            rig("a gate that is not there", operation, 99, 35).describe(8, 24, 0, 9, 3, false).faults(11, 32);
            rig("a task's rank", operation, 99, 25).faults(13, 24);
            rig("a task's rank 1", operation, 99, 25).describe(6, 490, 40, 7, 1, true).goes().holds(Rig.TR, 25);
            Rig.level3("a task's rank and the level").code(operation, 99, 24).describe(6, 490, 40, 7, 2, false).faults(13, 24);
            rig("a gate to a task of any rank", operation, 99, 33).describe(8, 27, 0, 9, 1, true).goes().holds(Rig.TR, 27);
        }
    }

    private static void refusals() {
        for (int operation : new int[] {JUMP, CALL}) {
            rig("a task that is not there", operation, 0, 24).describe(6, 490, 40, 7, 0, false).faults(11, 24);
            rig("a busy task", operation, 0, 24).describe(6, 490, 40, 8, 0, true).faults(13, 24);
            rig("the task itself", operation, 0, 20).faults(13, 20);
            Rig gate = rig("a gate to none", operation, 0, 32).describe(8, 3, 0, 9, 0, true).faults(13, 0);
            gate.lies(22, 72).lies(Rig.TASK5 + 7, 0);
            rig("a gate to a wrong one", operation, 0, 32).describe(8, 131, 0, 9, 0, true).faults(13, 128);
            rig("a gate to a busy task", operation, 0, 32).describe(8, 21, 0, 9, 0, true).faults(13, 20);
            rig("a gate to a gate", operation, 0, 32).describe(8, 33, 0, 9, 0, true).faults(13, 32);
            rig("a gate to code", operation, 0, 32).describe(8, 4, 0, 9, 0, true).faults(13, 4);
            rig("a gate to a task that is not there", operation, 0, 32).describe(8, 27, 0, 9, 0, true)
                .describe(6, 490, 16, 7, 0, false).faults(11, 24);
            rig("a small task", operation, 0, 24).describe(6, 490, 16, 7, 0, true).force(Rig.TR, 0).faults(10, 24);
            rig("no task", operation, 0, 24).force(Rig.TR, 0).faults(10, 0).lies(26, 71).lies(Rig.TASK6, 999);
            rig("the smallest task", operation, 0, 24).describe(6, 490, 17, 7, 0, true).goes().holds(Rig.TR, 24, 490, 17);
        }
    }

    private static void backRefusals() {
        Rig.level0("BACK without a task").code(BACK).set(Rig.FLAGS, 4).force(Rig.TR, 0).faults(10, 0).state(Rig.FLAGS, 0);
        int[][] cases = {{0, 13, 0}, {3, 13, 0}, {24, 13, 24}, {131, 13, 128}, {65535, 13, 65532}, {5, 13, 4}};
        for (int[] one : cases) {
            rig("BACK to " + one[0], BACK).set(Rig.FLAGS, 4).memory(Rig.TASK5, one[0]).faults(one[1], one[2]).lies(22, 72);
        }
        rig("BACK to a task that is not there", BACK).set(Rig.FLAGS, 4).memory(Rig.TASK5, 24)
            .describe(6, 490, 40, 8, 0, false).faults(11, 24);
        rig("BACK to a small task", BACK).set(Rig.FLAGS, 4).memory(Rig.TASK5, 24)
            .describe(6, 490, 16, 8, 0, true).faults(10, 24);
    }

    private static void limits() {
        Rig rig = rig("the old task's limit", JUMP, 0, 24).describe(5, 440, 9, 8, 0, true).force(Rig.TR, 20)
            .describe(5, 600, 60, 8, 0, true).goes();
        rig.lies(Rig.TASK5 + 7, 3, 1, 11, 0, 0, 0, 0, 0, 0, 0, 0).lies(607, 0, 0);
        rig("the new task behind the memory", JUMP, 0, 24).describe(6, 630, 17, 7, 0, true)
            .memory(637, 33, 10, 21).faults(13, 65532);
        rig("the old task behind the memory", JUMP, 0, 24).describe(5, 630, 17, 8, 0, true).force(Rig.TR, 20).goes()
            .lies(637, 3, 1, 11).lies(0, 0);
    }

    private static void whatIsTaken() {
        rig("no DS and ES", JUMP, 0, 24).memory(Rig.TASK6 + 15, 3, 0).goes().holds(Rig.DS, 0, 0, 0, 0, 0)
            .holds(Rig.ES, 0, 0, 0, 0, 0);
        rig("none is saved as 0", JUMP, 0, 24).force(Rig.DS, 0).force(Rig.ES, 3).memory(Rig.TASK5 + 15, 9, 9).goes()
            .lies(Rig.TASK5 + 14, 4, 0, 0, 8);
        rig("CS to none", JUMP, 0, 24).memory(Rig.TASK6 + 14, 3).faults(13, 0);
        rig("CS of another rank", JUMP, 0, 24).memory(Rig.TASK6 + 14, 14).faults(13, 12);
        rig("IP above the limit", JUMP, 0, 24).memory(Rig.TASK6 + 7, 61).faults(13, 0);
        rig("CS that is not there", JUMP, 0, 24).describe(3, 320, 60, 4, 3, false).faults(11, 12);
        rig("SS to none", JUMP, 0, 24).memory(Rig.TASK6 + 17, 0).faults(13, 0);
        rig("SS of another level", JUMP, 0, 24).memory(Rig.TASK6 + 17, 8).faults(13, 8);
        rig("SS that is not there", JUMP, 0, 24).describe(4, 390, 40, 2, 3, false).faults(12, 16);
        rig("DS of another level", JUMP, 0, 24).memory(Rig.TASK6 + 15, 8).faults(13, 8);
        rig("ES that is not there", JUMP, 0, 24).describe(7, 540, 40, 2, 3, false).memory(Rig.TASK6 + 15, 19, 31).faults(11, 28);
        // In this order: CS, SS, DS, ES.
        rig("CS before SS", JUMP, 0, 24).memory(Rig.TASK6 + 14, 14, 36, 40, 44).faults(13, 12);
        rig("SS before DS", JUMP, 0, 24).memory(Rig.TASK6 + 15, 36, 40, 44).faults(13, 44);
        rig("DS before ES", JUMP, 0, 24).memory(Rig.TASK6 + 15, 36, 40).faults(13, 36);
        rig("a task of level 0", JUMP, 0, 24).memory(Rig.TASK6 + 14, 4, 8, 12, 8).goes().state(Rig.LEVEL, 0)
            .holds(Rig.DS, 8).holds(Rig.ES, 12);
    }

    private static void sameTask() {
        // A task that was forced in while it is free can be switched to itself.
        rig("JUMP to itself", JUMP, 0, 24).force(Rig.TR, 24).goes().holds(Rig.TR, 24, 490, 40, 8, 0).state(Rig.IP, 3)
            .holds(Rig.CS, 4).holds(Rig.ES, 31).state(Rig.A, 11).state(Rig.FLAGS, 1).lies(26, 72);
        rig("CALL of itself", CALL, 0, 24).force(Rig.TR, 24).goes().lies(Rig.TASK6, 24).state(Rig.FLAGS, 5).lies(26, 72);
        rig("BACK to itself", BACK).memory(Rig.TASK5, 20).set(Rig.FLAGS, 5).goes().holds(Rig.TR, 20, 440, 40, 8, 0)
            .state(Rig.FLAGS, 1).state(Rig.IP, 1).lies(22, 72);
        // The old task's words lie on descriptor 8, so that the new one is as its descriptor is then.
        rig("saving onto the table", JUMP, 0, 32).describe(8, 490, 40, 7, 0, true).describe(5, 26, 40, 8, 0, true)
            .force(Rig.TR, 20).goes().holds(Rig.TR, 32, 490, 3, 8, 0).lies(32, 490, 3, 8, 11).state(Rig.A, 21);
    }
}
