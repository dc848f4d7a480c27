/** Terms: how a fault is delivered, a fault while a fault is delivered, and one while fault 8 is. */
public final class DeliveryEdgesTest {
    private static final int BAD = 65535, LOAD_DS = Rig.op(13, 0, 1), POP_C = Rig.op(12, 2, 0), BACK = Rig.op(19, 0, 0);

    public static void main(String[] args) {
        codesWithoutWish();
        leavesEverything();
        eachByItsVector();
        ipOfTheInstruction();
        rankIsNotLookedAt();
        byTrapGate();
        byTrapGateInwards();
        byTaskGate();
        codeIsPushedLast();
        secondFaults();
        secondFaultsOfStacks();
        secondFaultsOfTasks();
        allIsAsBefore();
        downByFault8();
        downWithoutRoom();
        fault8ByOtherWays();
        Rig.finish();
    }

    private static void codesWithoutWish() {
        Rig.sentence("(In codes selectors have the wish 0.)");
        for (int wish = 0; wish <= 3; wish++) {
            int its = wish;
            Rig.faulty(13, 128, () -> Rig.level0("a wrong one").set(Rig.A, 128 + its).code(LOAD_DS));
            Rig.faulty(13, 65532, () -> Rig.level0("the greatest").set(Rig.A, 65532 + its).code(LOAD_DS));
            Rig.faulty(11, 36, () -> Rig.level0("not there").describe(9, 0, 0, 1, 3, false).set(Rig.A, 36 + its)
                .code(LOAD_DS));
            Rig.level0("as it is pushed").set(Rig.A, 128 + wish).code(LOAD_DS).faults(13, 128).lies(Rig.STACK0 + 26, 128);
        }
    }

    private static void leavesEverything() {
        Rig.sentence("An instruction that faults leaves everything as it was before it;");
        // Each of them fails at its end, after it has changed what it can.
        Rig.faulty(13, 0, () -> busy("JUMP without m").set(Rig.IP, 59).memory(Rig.CODE0 + 59, Rig.op(15, 0, 0), 9));
        Rig.faulty(13, 8, () -> busy("CALL that has pushed").code(Rig.op(16, 0, 0), 9, 36).describe(9, 8, 9, 6, 0, true));
        Rig.faulty(13, 0, () -> busy("CALL above the limit").code(Rig.op(16, 0, 0), 61, 4));
        Rig.faulty(12, 16, () -> busy("RETURN that has entered").code(Rig.op(17, 0, 0), 0)
            .memory(Rig.STACK0 + 30, 9, 15, 20, 19).describe(4, Rig.STACK3, 40, 2, 3, false));
        Rig.faulty(13, 128, () -> busy("BACK that has popped FLAGS").code(BACK).memory(Rig.STACK0 + 30, 9, 128, 0));
        Rig.faulty(13, 0, () -> busy("TRAP that has pushed").code(Rig.op(18, 0, 0), 15).describe(47, 4, 61, 10, 0, true));
        Rig.faulty(13, 128, () -> busy("JUMP that has switched").code(Rig.op(15, 0, 0), 0, 24)
            .memory(Rig.TASK6 + 7, 9, 0, 21, 22, 23, 24, 25, 15, 28, 128, 19));
        Rig.faulty(13, 128, () -> busy("CALL that has switched").code(Rig.op(16, 0, 0), 0, 24)
            .memory(Rig.TASK6 + 7, 9, 0, 21, 22, 23, 24, 25, 15, 28, 128, 19));
        Rig.faulty(12, 0, () -> Rig.level3("CALL that has taken a stack").set(Rig.FLAGS, 3).describe(8, 36, 9, 6, 3, true)
            .describe(9, Rig.CODE0, 60, 4, 1, true).describe(10, 590, 9, 2, 1, true).memory(Rig.TASK5 + 3, 3, 41)
            .code(Rig.op(16, 0, 0), 0, 35));
    }

    /** Level 0 with something in every register and segment. */
    private static Rig busy(String name) {
        return Rig.level0(name).set(Rig.A, 11).set(Rig.B, 12).set(Rig.C, 13).set(Rig.X, 14).set(Rig.FLAGS, 3)
            .force(Rig.DS, 28).force(Rig.ES, 31);
    }

    private static void eachByItsVector() {
        Rig.sentence("then the fault is DELIVERED: as TRAP is, by vector number (IP then being that of the instruction),"
            + " without looking at the gate's rank, and at last its code is pushed (on the stack that there is then).");
        Rig.level0("6").code(BAD).faults(6, 0);
        Rig.level0("10").force(Rig.TR, 0).set(Rig.FLAGS, 4).code(BACK).faults(10, 0);
        Rig.level0("11").describe(9, 0, 0, 1, 3, false).set(Rig.A, 36).code(LOAD_DS).faults(11, 36);
        Rig.level3("12").set(Rig.SP, 41).code(POP_C).faults(12, 0);
        Rig.level0("13").set(Rig.A, 128).code(LOAD_DS).faults(13, 128);
        Rig.level0("8").describe(38, 0, 0, 0, 0, false).code(BAD).doubles();
    }

    private static void ipOfTheInstruction() {
        // The instruction's first word, though n and m have been fetched.
        for (int ip : new int[] {0, 1, 30, 57}) {
            Rig.level0("IP " + ip).set(Rig.IP, ip).memory(Rig.CODE0 + ip, Rig.op(15, 0, 0), 9, 128).faults(13, 128)
                .lies(Rig.STACK0 + 27, ip);
        }
        Rig.level0("behind the limit").set(Rig.IP, 61).faults(13, 0).lies(Rig.STACK0 + 27, 61);
        Rig.level0("65535").set(Rig.IP, 65535).faults(13, 0).lies(Rig.STACK0 + 27, 65535);
        Rig.level0("n behind the limit").set(Rig.IP, 60).memory(Rig.CODE0 + 60, Rig.op(1, 0, 0)).faults(13, 0)
            .lies(Rig.STACK0 + 27, 60);
    }

    private static void rankIsNotLookedAt() {
        for (int level = 0; level <= 3; level++) {
            for (int rank = 0; rank <= 3; rank++) {
                Rig.at(level, "a trap gate").describe(38, 4, 46, 10, rank, true).code(BAD).faults(6, 0);
                Rig.at(level, "a task gate").describe(38, 24, 0, 9, rank, true).code(BAD)
                    .memory(Rig.TASK6 + 7, 33, 0, 0, 0, 0, 0, 30, 4, 0, 0, 8).raises(6, 0).holds(Rig.TR, 24);
            }
        }
        // TRAP by the same vector does look at it.
        Rig.level3("TRAP").describe(38, 4, 46, 10, 0, true).code(Rig.op(18, 0, 0), 6).faults(13, 152);
    }

    private static void byTrapGate() {
        for (int flags = 0; flags <= 7; flags++) {
            Rig.level0("FLAGS " + flags).set(Rig.FLAGS, flags).set(Rig.A, 131).set(Rig.IP, 5)
                .memory(Rig.CODE0 + 5, LOAD_DS).faults(13, 128).state(Rig.FLAGS, flags % 4).state(Rig.SP, 26)
                .lies(Rig.STACK0 + 25, 0, 128, 5, 4, flags, 0).holds(Rig.SS, 8).state(Rig.A, 131);
        }
        Rig.level0("a full stack").set(Rig.SP, 4).code(BAD).faults(6, 0).state(Rig.SP, 0).lies(Rig.STACK0, 0, 0, 4, 0);
        Rig.level3("at level 3").describe(38, 12, 46, 10, 0, true).code(BAD).raises(6, 0).state(Rig.LEVEL, 3)
            .state(Rig.SP, 26).lies(Rig.STACK3 + 26, 0, 0, 15, 0);
    }

    private static void byTrapGateInwards() {
        Rig.level3("to level 0").set(Rig.FLAGS, 6).set(Rig.A, 131).code(LOAD_DS).faults(13, 128).state(Rig.FLAGS, 2)
            .state(Rig.SP, 29).lies(Rig.STACK0 + 28, 0, 128, 0, 15, 6, 30, 19, 0).lies(Rig.STACK3 + 26, 0, 0, 0, 0);
        Rig.level3("with room for six words").memory(Rig.TASK5 + 1, 6).code(BAD).faults(6, 0).state(Rig.SP, 0);
        Rig.level3("to level 1").describe(9, Rig.CODE0, 60, 3, 1, true).describe(10, 590, 9, 2, 1, true)
            .memory(Rig.TASK5 + 3, 9, 41).describe(38, 36, 46, 10, 0, true).code(BAD).raises(6, 0).state(Rig.LEVEL, 1)
            .holds(Rig.SS, 41).state(Rig.SP, 3).lies(593, 0, 0, 15, 0, 30, 19);
    }

    private static void byTaskGate() {
        Rig rig = Rig.level3("by a task").describe(45, 27, 0, 9, 0, true).set(Rig.A, 131).set(Rig.FLAGS, 3).set(Rig.IP, 4)
            .memory(Rig.CODE3 + 4, LOAD_DS).memory(Rig.TASK6 + 7, 33, 1, 21, 22, 23, 24, 25, 4, 0, 0, 8).raises(13, 128);
        rig.holds(Rig.TR, 27, 490, 40, 8, 0).state(Rig.FLAGS, 5).state(Rig.IP, 33).state(Rig.SP, 24);
        rig.lies(Rig.STACK0 + 23, 0, 128, 0).lies(Rig.TASK6, 20).lies(22, 72).lies(26, 72);
        rig.lies(Rig.TASK5 + 7, 4, 3, 131, 0, 0, 0, 30, 15, 0, 0, 19);
    }

    private static void codeIsPushedLast() {
        // The task that takes it has room for one word, or for none.
        Rig.level0("room for one").describe(38, 24, 0, 9, 0, true).code(BAD)
            .memory(Rig.TASK6 + 7, 33, 1, 21, 22, 23, 24, 1, 4, 0, 0, 8).raises(6, 0).state(Rig.SP, 0);
        Rig.level0("room for none").describe(38, 24, 0, 9, 0, true).code(BAD)
            .memory(Rig.TASK6 + 7, 33, 1, 21, 22, 23, 24, 0, 4, 0, 0, 8).doubles().holds(Rig.TR, 20, 440, 40, 8, 0)
            .state(Rig.A, 0).lies(26, 71).lies(Rig.TASK6, 0).lies(Rig.TASK5 + 7, 0, 0, 0, 0, 0, 0, 0);
        Rig.level3("six words, room for five").memory(Rig.TASK5 + 1, 5).code(BAD).goesDown().lies(Rig.STACK0, 0, 0, 0, 0, 0)
            .holds(Rig.SS, 19).state(Rig.SP, 30);
    }

    /** Fault 6 at level 0, whose gate is as said, and fault 8 in its place. */
    private static void second(String name, int first, int second, int kind, boolean there) {
        Rig.level0(name).describe(38, first, second, kind, 3, there).set(Rig.FLAGS, 7).set(Rig.IP, 3)
            .memory(Rig.CODE0 + 3, BAD).doubles().state(Rig.SP, 26).lies(Rig.STACK0 + 25, 0, 0, 3, 4, 7, 0)
            .state(Rig.FLAGS, 3);
    }

    private static void secondFaults() {
        Rig.sentence("If that faults, all is as before it, and fault 8, 0 is delivered;");
        for (int kind = 0; kind <= 15; kind++) {
            if (kind != 9 && kind != 10) {
                second("a gate of kind " + kind, 4, 46, kind, true);
            }
        }
        second("a gate that is not there", 4, 46, 10, false);
        second("a task gate that is not there", 24, 46, 9, false);
        for (int first : new int[] {0, 3, 128, 65535, 8, 12, 20, 32}) {
            second("a trap gate to " + first, first, 46, 10, true);
            second("a task gate to " + first, first, 46, 9, true);
        }
        second("a trap gate above the limit", 4, 61, 10, true);
        second("a task gate to a task without code", 24, 0, 9, true);
        Rig.level0("a trap gate at the limit").describe(38, 4, 60, 10, 0, true).code(BAD).raises(6, 0).state(Rig.IP, 60);
    }

    private static void secondFaultsOfStacks() {
        // Fault 12 itself can't be delivered on the stack that is full: fault 8 goes to a task.
        for (int sp = 0; sp <= 3; sp++) {
            Rig rig = Rig.level0("room for " + sp).set(Rig.SP, sp).code(BAD).describe(40, 24, 0, 9, 0, true)
                .memory(Rig.TASK6 + 7, 48, 0, 21, 22, 23, 24, 25, 4, 0, 0, 8).doubles();
            rig.holds(Rig.TR, 24).lies(Rig.STACK0, 0, 0, 0, 0).state(Rig.SP, 24).lies(Rig.STACK0 + 24, 0);
            rig.lies(Rig.TASK5 + 7, 0, 0).lies(Rig.TASK5 + 13, sp, 4, 0, 0, 8);
        }
        Rig.level0("no stack").force(Rig.SS, 0).code(BAD).describe(40, 24, 0, 9, 0, true)
            .memory(Rig.TASK6 + 7, 48, 0, 21, 22, 23, 24, 25, 4, 0, 0, 8).doubles().lies(Rig.TASK5 + 17, 0);
    }

    private static void secondFaultsOfTasks() {
        Rig.level3("no task, and easy code for 8").force(Rig.TR, 0).describe(9, Rig.CODE0, 60, 5, 0, true)
            .describe(40, 36, 48, 10, 0, true).code(BAD).doubles().state(Rig.LEVEL, 3).state(Rig.SP, 26)
            .lies(Rig.STACK3 + 26, 0, 0, 15, 0);
        Rig.level3("a bad inner stack").memory(Rig.TASK5 + 2, 9).describe(9, Rig.CODE0, 60, 5, 0, true)
            .describe(40, 36, 48, 10, 0, true).code(BAD).doubles().state(Rig.LEVEL, 3);
        Rig.level0("a busy task").describe(38, 24, 0, 9, 0, true).describe(6, Rig.TASK6, 40, 8, 0, true).code(BAD).doubles();
        Rig.level0("a small task").describe(38, 24, 0, 9, 0, true).describe(6, Rig.TASK6, 16, 7, 0, true).code(BAD).doubles();
    }

    private static void allIsAsBefore() {
        // The switch fails at its very end, after it has changed all that it can.
        Rig rig = Rig.level0("a switch that fails at ES").describe(38, 24, 0, 9, 0, true).set(Rig.A, 5).set(Rig.FLAGS, 3)
            .force(Rig.DS, 28).force(Rig.ES, 31).code(BAD)
            .memory(Rig.TASK6 + 7, 33, 0, 21, 22, 23, 24, 25, 15, 0, 128, 19).doubles();
        rig.state(Rig.A, 5).state(Rig.SP, 26).lies(Rig.STACK0 + 26, 0, 0, 4, 3).holds(Rig.TR, 20, 440, 40, 8, 0);
        rig.holds(Rig.DS, 28).holds(Rig.ES, 31).holds(Rig.SS, 8).lies(22, 72).lies(26, 71).lies(Rig.TASK6, 0);
        rig.lies(Rig.TASK5 + 7, 0, 0, 0, 0, 0, 0, 0, 0, 0, 0, 0);
    }

    private static void downByFault8() {
        Rig.sentence("if that faults, too, all is as before, and the machine is DOWN.");
        Rig.faulty(6, 0, () -> Rig.level0("at level 0").set(Rig.FLAGS, 7).set(Rig.A, 9).code(BAD));
        Rig.faulty(6, 0, () -> Rig.level3("at level 3").set(Rig.FLAGS, 7).set(Rig.A, 9).code(BAD));
        for (int kind = 0; kind <= 15; kind++) {
            if (kind != 9 && kind != 10) {
                Rig.level0("8 of kind " + kind).withoutVectors().describe(40, 4, 48, kind, 0, true).code(BAD).goesDown();
            }
        }
        Rig.level0("8 is not there").withoutVectors().describe(40, 4, 48, 10, 0, false).code(BAD).goesDown();
        Rig.level0("8 above the limit").withoutVectors().describe(40, 4, 61, 10, 0, true).code(BAD).goesDown()
            .state(Rig.SP, 30).lies(Rig.STACK0 + 27, 0, 0, 0);
        Rig.level0("8 to none").withoutVectors().describe(40, 3, 48, 10, 0, true).code(BAD).goesDown();
        Rig.level0("8 to a bad task").withoutVectors().describe(40, 24, 0, 9, 0, true).code(BAD).goesDown()
            .holds(Rig.TR, 20).lies(26, 71).lies(22, 72);
        Rig.level3("8 without a task").withoutVectors().describe(40, 4, 48, 10, 0, true).force(Rig.TR, 0).code(BAD).goesDown()
            .state(Rig.LEVEL, 3);
    }

    private static void downWithoutRoom() {
        for (int sp = 0; sp <= 3; sp++) {
            Rig.level0("room for " + sp).set(Rig.SP, sp).set(Rig.FLAGS, 7).code(BAD).goesDown().state(Rig.SP, sp)
                .state(Rig.FLAGS, 7).state(Rig.IP, 0).lies(Rig.STACK0, 0, 0, 0, 0);
        }
        for (int sp = 0; sp <= 5; sp++) {
            Rig.level3("room for " + sp + " inside").memory(Rig.TASK5 + 1, sp).set(Rig.FLAGS, 7).code(BAD).goesDown()
                .state(Rig.SP, 30).state(Rig.FLAGS, 7).holds(Rig.SS, 19).holds(Rig.CS, 15)
                .lies(Rig.STACK0, 0, 0, 0, 0, 0, 0);
        }
        // Fault 12 of a PUSH can't be pushed either.
        Rig.level0("PUSH").set(Rig.SP, 0).code(Rig.op(11, 0, 0)).goesDown().state(Rig.SP, 0);
    }

    private static void fault8ByOtherWays() {
        Rig.sentence("If that faults, all is as before it, and fault 8, 0 is delivered;");
        Rig.level3("8 to level 0").describe(38, 0, 0, 0, 0, false).set(Rig.FLAGS, 6).code(BAD).doubles()
            .state(Rig.LEVEL, 0).state(Rig.FLAGS, 2).state(Rig.SP, 29).lies(Rig.STACK0 + 29, 0, 0, 15, 6, 30, 19);
        for (int rank = 0; rank <= 3; rank++) {
            Rig.level3("8 of rank " + rank).describe(38, 0, 0, 0, 0, false).describe(40, 4, 48, 10, rank, true).code(BAD)
                .doubles();
        }
        // The code of fault 8 is 0, whatever the code of the first one was.
        Rig.level0("another code").describe(45, 0, 0, 0, 0, false).memory(Rig.STACK0 + 26, 9).set(Rig.A, 128)
            .code(LOAD_DS).doubles().lies(Rig.STACK0 + 26, 0, 0, 4);
    }
}
