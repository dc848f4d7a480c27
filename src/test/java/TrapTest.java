/** Promise 7: TRAP, BACK without NESTED, and the delivery of faults. */
public final class TrapTest {
    private static final int TRAP = Rig.op(18, 0, 0);
    private static final int BACK = Rig.op(19, 0, 0);

    public static void main(String[] args) {
        traps();
        trapFaults();
        goesBack();
        goesBackOut();
        delivers();
        deliversDeep();
        deliversByTask();
        leavesAllAsItWas();
        Rig.finish();
    }

    private static void traps() {
        for (int v = 0; v <= 15; v++) {
            Rig.level0("TRAP " + v).describe(32 + v, 4, 9, 10, 0, true).set(Rig.FLAGS, 7).code(TRAP, v).goes()
                .holds(Rig.CS, 4).state(Rig.IP, 9).state(Rig.FLAGS, 3).state(Rig.SP, 27)
                .lies(Rig.STACK0 + 26, 0, 2, 4, 7, 0);
        }
        Rig.level3("TRAP inwards").describe(32, 6, 9, 10, 3, true).memory(131, 3).set(Rig.FLAGS, 6).code(TRAP, 0).goes()
            .holds(Rig.CS, 4).holds(Rig.SS, 8).state(Rig.FLAGS, 2).state(Rig.SP, 30)
            .lies(Rig.STACK0 + 29, 0, 2, 15, 6, 30, 19, 0);
        Rig.level3("TRAP at level 3").describe(32, 12, 9, 10, 3, true).set(Rig.FLAGS, 5).code(TRAP, 0).goes()
            .holds(Rig.CS, 15).holds(Rig.SS, 19).state(Rig.FLAGS, 1).lies(Rig.STACK3 + 27, 2, 15, 5);
    }

    private static void trapFaults() {
        Rig.level0("TRAP 16").code(TRAP, 16).faults(13, 192);
        Rig.level0("TRAP 16 by words behind the table").memory(192, 4, 9, 10 + 64).code(TRAP, 16).faults(13, 192);
        Rig.level0("TRAP 16351").code(TRAP, 16351).faults(13, 65532);
        Rig.level0("TRAP 16352").code(TRAP, 16352).faults(13, 0);
        Rig.level0("TRAP 65535").code(TRAP, 65535).faults(13, 124);
        for (int kind = 0; kind <= 15; kind++) {
            if (kind != 9 && kind != 10) {
                Rig.level0("TRAP by kind " + kind).describe(47, 4, 9, kind, 3, false).code(TRAP, 15).faults(13, 188);
            }
        }
        for (int kind = 9; kind <= 10; kind++) {
            int target = kind == 9 ? 24 : 4;
            Rig.level3("TRAP by rank 2").describe(47, target, 9, kind, 2, false).code(TRAP, 15).faults(13, 188);
            Rig.level3("TRAP by rank 3").describe(47, target, 9, kind, 3, false).code(TRAP, 15).faults(11, 188);
            Rig.level0("TRAP to none").describe(47, 3, 9, kind, 0, true).code(TRAP, 15).faults(13, 0);
            Rig.level0("TRAP to a wrong one").describe(47, 130, 9, kind, 0, true).code(TRAP, 15).faults(13, 128);
            Rig.level0("TRAP to data").describe(47, 29, 9, kind, 0, true).code(TRAP, 15).faults(13, 28);
        }
        Rig.level3("TRAP to data before pushing").describe(47, 28, 9, 10, 3, true).set(Rig.SP, 0).code(TRAP, 15)
            .faults(13, 28);
        for (int sp = 0; sp <= 2; sp++) {
            Rig.level3("TRAP with a full stack").describe(47, 12, 9, 10, 3, true).set(Rig.SP, sp).code(TRAP, 15)
                .faults(12, 0).lies(Rig.STACK3, 0, 0);
        }
        Rig.level0("TRAP above the limit").describe(47, 4, 61, 10, 0, true).code(TRAP, 15).faults(13, 0);
        Rig.level0("TRAP outwards").describe(47, 12, 9, 10, 0, true).code(TRAP, 15).faults(13, 12);
    }

    private static void goesBack() {
        Rig.level0("BACK").memory(Rig.STACK0 + 30, 9, 4, 65531).code(BACK).goes()
            .holds(Rig.CS, 4).state(Rig.IP, 9).state(Rig.FLAGS, 3).state(Rig.SP, 33);
        Rig.level0("BACK sets NESTED").memory(Rig.STACK0 + 30, 9, 4, 12).code(BACK).goes().state(Rig.FLAGS, 4);
        Rig.level3("BACK at 3").memory(Rig.STACK3 + 30, 9, 15, 8).set(Rig.FLAGS, 3).code(BACK).goes()
            .holds(Rig.CS, 15).state(Rig.FLAGS, 0).state(Rig.SP, 33);
        Rig.level3("BACK inwards").memory(Rig.STACK3 + 30, 9, 6, 3).code(BACK).faults(13, 4).state(Rig.FLAGS, 0);
        Rig.level0("BACK to none").memory(Rig.STACK0 + 30, 9, 0, 3).code(BACK).faults(13, 0);
        Rig.level0("BACK above the limit").memory(Rig.STACK0 + 30, 61, 4, 3).code(BACK).faults(13, 0);
        Rig.level3("BACK of two words").set(Rig.SP, 39).memory(Rig.STACK3 + 39, 9, 15).code(BACK).faults(12, 0);
        Rig.level3("BACK of three words").set(Rig.SP, 38).memory(Rig.STACK3 + 38, 9, 15, 1).code(BACK).goes()
            .state(Rig.SP, 41).state(Rig.FLAGS, 1);
        Rig.level3("the flags are popped before the wish is looked at").set(Rig.SP, 39)
            .memory(Rig.STACK3 + 39, 9, 4).code(BACK).faults(12, 0);
    }

    private static void goesBackOut() {
        Rig.level0("BACK out").memory(Rig.STACK0 + 30, 9, 15, 6, 20, 19).force(Rig.DS, 8).force(Rig.ES, 28).code(BACK)
            .goes().holds(Rig.CS, 15).holds(Rig.SS, 19).state(Rig.SP, 20).state(Rig.FLAGS, 6).state(Rig.LEVEL, 3)
            .holds(Rig.DS, 0, 0, 0, 0, 0).holds(Rig.ES, 28);
        Rig rig = Rig.level3("TRAP and BACK").describe(32, 4, 9, 10, 3, true).set(Rig.FLAGS, 7).code(TRAP, 0);
        rig.memory(Rig.CODE0 + 9, BACK).goes().state(Rig.LEVEL, 0).goes();
        rig.holds(Rig.CS, 15).holds(Rig.SS, 19).state(Rig.SP, 30).state(Rig.IP, 2).state(Rig.FLAGS, 7);
    }

    private static void delivers() {
        Rig rig = Rig.level0("a fault at level 0").set(Rig.FLAGS, 5).set(Rig.A, 131).set(Rig.IP, 5);
        rig.memory(Rig.CODE0 + 5, Rig.op(13, 0, 1)).faults(13, 128).state(Rig.FLAGS, 1).state(Rig.SP, 26);
        rig.lies(Rig.STACK0 + 25, 0, 128, 5, 4, 5, 0).state(Rig.A, 131);
        // POP of the code and BACK lead to the instruction again.
        rig.memory(Rig.CODE0 + 53, Rig.op(12, 1, 0), BACK);
        Rig.due("step(2)", rig.x.step(2), 2);
        rig.state(Rig.IP, 5).state(Rig.FLAGS, 5).state(Rig.SP, 30).state(Rig.B, 128);
        Rig.level0("a trap gate of easy code").describe(8, 590, 60, 5, 0, true).describe(38, 33, 46, 10, 0, true)
            .code(65535).faults(6, 0).holds(Rig.CS, 32);
        Rig.level0("a vector that is not there").describe(38, 4, 46, 10, 0, false).code(65535).doubles();
        Rig.level0("a vector of another kind").describe(38, 4, 46, 6, 0, true).code(65535).doubles();
        Rig.level0("a vector to data").describe(38, 8, 46, 10, 0, true).code(65535).doubles();
        Rig.level0("a vector above the limit").describe(38, 4, 61, 10, 0, true).code(65535).doubles();
    }

    private static void deliversDeep() {
        Rig.level3("a fault at level 3").set(Rig.FLAGS, 2).set(Rig.A, 34).code(Rig.op(13, 0, 1)).faults(13, 32)
            .state(Rig.SP, 29).lies(Rig.STACK0 + 28, 0, 32, 0, 15, 2, 30, 19, 0).holds(Rig.SS, 8)
            .lies(Rig.STACK3 + 28, 0, 0);
        Rig.level3("a fault handled at level 3").describe(38, 12, 9, 10, 0, true).code(65535).raises(6, 0)
            .state(Rig.LEVEL, 3).state(Rig.IP, 9).state(Rig.SP, 26).lies(Rig.STACK3 + 26, 0, 0, 15, 0);
        Rig down = Rig.level3("no task").force(Rig.TR, 0).code(65535);
        Rig.due("step(1) without a task", down.x.step(1), 0);
        down.state(Rig.HALT, 2).state(Rig.NUMBER, 8).state(Rig.FAULTS, 2);
    }

    private static void deliversByTask() {
        Rig rig = Rig.level3("a fault by a task gate").describe(32 + 6, 27, 0, 9, 0, true).set(Rig.A, 5).code(65535);
        rig.memory(Rig.TASK6 + 7, 20, 2, 1, 2, 3, 4, 30, 4, 8, 28, 8).raises(6, 0);
        rig.holds(Rig.TR, 27, 490, 40, 8, 0).holds(Rig.CS, 4).holds(Rig.SS, 8).holds(Rig.DS, 8).holds(Rig.ES, 28);
        rig.state(Rig.IP, 20).state(Rig.FLAGS, 6).state(Rig.A, 1).state(Rig.SP, 29).lies(Rig.STACK0 + 29, 0, 0);
        rig.lies(Rig.TASK6, 20).lies(22, 72).lies(26, 72).lies(Rig.TASK5 + 7, 0, 0, 5, 0, 0, 0, 30, 15, 0, 0, 19);
        // POP of the code and BACK lead to the instruction again.
        rig.memory(Rig.CODE0 + 20, Rig.op(12, 1, 0), BACK);
        Rig.due("step(2)", rig.x.step(2), 2);
        rig.holds(Rig.TR, 20).holds(Rig.CS, 15).state(Rig.IP, 0).state(Rig.A, 5).state(Rig.B, 0).lies(26, 71);
        Rig.level0("a code is pushed by the new task").describe(32 + 13, 24, 0, 9, 0, true).set(Rig.A, 131)
            .code(Rig.op(13, 0, 1)).memory(Rig.TASK6 + 7, 20, 0, 0, 0, 0, 0, 20, 15, 0, 0, 19).raises(13, 128)
            .state(Rig.LEVEL, 3).state(Rig.SP, 19).lies(Rig.STACK3 + 19, 128);
    }

    private static void leavesAllAsItWas() {
        // RETURN out fails at the stack, when CS, SP and IP have long been others.
        Rig rig = Rig.level0("RETURN that fails late").memory(Rig.STACK0 + 30, 9, 15, 20, 18).force(Rig.DS, 8)
            .code(Rig.op(17, 0, 0), 0);
        rig.faults(13, 16).state(Rig.SP, 26).holds(Rig.CS, 4).holds(Rig.SS, 8).holds(Rig.DS, 8);
        // A switch that fails at its last selector, and is then delivered as if nothing had been.
        rig = Rig.level0("a switch that fails late").code(Rig.op(16, 0, 0), 0, 24).set(Rig.A, 5).force(Rig.DS, 28)
            .force(Rig.ES, 30);
        rig.memory(Rig.TASK6 + 7, 20, 7, 1, 2, 3, 4, 20, 15, 0, 36, 19).faults(13, 36);
        rig.holds(Rig.TR, 20, 440, 40, 8, 0).holds(Rig.SS, 8, 270, 40, 2, 0).holds(Rig.DS, 28, 540, 40, 2, 3)
            .holds(Rig.ES, 30, 540, 40, 2, 3).state(Rig.A, 5).state(Rig.SP, 26);
        rig.lies(22, 72).lies(26, 71).lies(Rig.TASK6, 0).lies(Rig.TASK5 + 7, 0, 0, 0, 0, 0, 0, 0, 0, 0, 0, 0);
        rig.state(Rig.FLAGS, 0);
    }
}
