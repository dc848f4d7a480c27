/** Promise 7: JUMP, CALL, the deep entry and RETURN. */
public final class TransferTest {
    private static final int JUMP = Rig.op(15, 0, 0);
    private static final int CALL = Rig.op(16, 0, 0);
    private static final int RETURN = Rig.op(17, 0, 0);

    public static void main(String[] args) {
        toCode();
        toCodeOfOtherRanks();
        toOtherKinds();
        throughGates();
        deepEntry();
        deepEntryStacks();
        deepEntryFaults();
        deepEntryWithoutDepth();
        returnsWithin();
        returnsOut();
        Rig.finish();
    }

    private static Rig at(int level, String name) {
        return level == 0 ? Rig.level0(name) : Rig.level3(name);
    }

    /** JUMP or CALL at a level to offset 7 of selector s, whose descriptor is 8 (or 31). */
    private static Rig far(int operation, int level, int s, int kind, int rank, boolean there) {
        String name = "operation " + operation / 64 + " at " + level + " to " + s + ", kind " + kind + ", rank " + rank;
        return at(level, name).describe(8, 600, 10, kind, rank, there).describe(31, 600, 10, kind, rank, there)
            .code(operation, 7, s);
    }

    private static void toCode() {
        for (int kind = 3; kind <= 5; kind++) {
            far(JUMP, 0, 32, kind, 0, true).goes().holds(Rig.CS, 32, 600, 10, kind, 0).state(Rig.IP, 7).state(Rig.SP, 30);
            far(JUMP, 3, 32, kind, 3, true).goes().holds(Rig.CS, 35, 600, 10, kind, 3).state(Rig.LEVEL, 3);
            far(JUMP, 3, 35, kind, 3, true).goes().holds(Rig.CS, 35);
            far(JUMP, 0, 124, kind, 0, true).goes().holds(Rig.CS, 124);
            far(CALL, 0, 32, kind, 0, true).goes().holds(Rig.CS, 32).state(Rig.IP, 7)
                .state(Rig.SP, 28).lies(Rig.STACK0 + 27, 0, 3, 4, 0);
            far(CALL, 3, 34, kind, 3, true).goes().holds(Rig.CS, 35).state(Rig.IP, 7)
                .state(Rig.SP, 28).lies(Rig.STACK3 + 27, 0, 3, 15, 0);
            for (int operation : new int[] {JUMP, CALL}) {
                far(operation, 0, 32, kind, 0, false).faults(11, 32);
                far(operation, 0, 32, kind, 0, true).describe(8, 600, 6, kind, 0, true).faults(13, 0);
                far(operation, 0, 32, kind, 0, true).describe(8, 600, 7, kind, 0, true).goes().state(Rig.IP, 7);
                far(operation, 0, 32, kind, 0, false).describe(8, 600, 6, kind, 0, false).faults(11, 32);
                far(operation, 0, 32, kind, 1, false).faults(13, 32);
            }
        }
        far(CALL, 3, 35, 4, 3, true).set(Rig.SP, 1).faults(12, 0).lies(Rig.STACK3, 0);
        // What is pushed comes before what is entered.
        far(CALL, 3, 35, 4, 0, true).set(Rig.SP, 0).faults(12, 0);
        far(CALL, 0, 33, 4, 0, true).force(Rig.SS, 0).describe(45, 24, 0, 9, 0, true)
            .memory(Rig.TASK6 + 7, 53, 0, 0, 0, 0, 0, 30, 4, 0, 0, 8).raises(13, 32);
    }

    private static void toCodeOfOtherRanks() {
        for (int operation : new int[] {JUMP, CALL}) {
            for (int kind = 3; kind <= 4; kind++) {
                far(operation, 0, 33, kind, 0, true).faults(13, 32);
                far(operation, 3, 35, kind, 2, true).faults(13, 32);
                far(operation, 3, 32, kind, 0, true).faults(13, 32);
            }
            far(operation, 0, 35, 5, 0, true).goes().holds(Rig.CS, 32, 600, 10, 5, 0);
            far(operation, 0, 32, 5, 1, true).faults(13, 32);
            far(operation, 3, 32, 5, 0, true).goes().holds(Rig.CS, 35, 600, 10, 5, 0).state(Rig.LEVEL, 3);
        }
    }

    private static void toOtherKinds() {
        for (int operation : new int[] {JUMP, CALL}) {
            for (int s = 0; s < 4; s++) {
                far(operation, 0, s, 4, 0, true).describe(0, 600, 10, 4, 0, true).faults(13, 0);
            }
            far(operation, 0, 128, 4, 0, true).faults(13, 128);
            far(operation, 0, 128 + 24 + 3, 4, 0, true).describe(38, 4, 46, 10, 0, true).faults(13, 152);
            far(operation, 0, 65534, 4, 0, true).faults(13, 65532);
            for (int kind : new int[] {0, 1, 2, 8, 10, 11, 12, 13, 14, 15}) {
                far(operation, 0, 34, kind, 3, false).faults(13, 32);
            }
        }
    }

    /** A gate in descriptor 8 that leads to offset 9 of selector target, with a count; 99 is not looked at. */
    private static Rig gate(int operation, int level, int s, int rank, int target, int count) {
        String name = "operation " + operation / 64 + " at " + level + " through " + s + ", rank " + rank + " to " + target;
        return at(level, name).describe(8, target, 9, 6, rank, true).memory(35, count).code(operation, 99, s);
    }

    private static void throughGates() {
        gate(JUMP, 0, 32, 0, 7, 7).goes().holds(Rig.CS, 4, 200, 60, 4, 0).state(Rig.IP, 9).state(Rig.SP, 30);
        gate(JUMP, 3, 35, 3, 12, 7).goes().holds(Rig.CS, 15).state(Rig.IP, 9).state(Rig.SP, 30);
        gate(JUMP, 3, 35, 3, 4, 0).faults(13, 4);
        gate(JUMP, 0, 32, 0, 2, 0).faults(13, 0);
        gate(JUMP, 0, 32, 0, 130, 0).faults(13, 128);
        gate(JUMP, 0, 32, 0, 8, 0).faults(13, 8);
        gate(JUMP, 0, 32, 0, 6, 0).describe(1, 200, 60, 4, 0, false).describe(9, 200, 60, 4, 0, true)
            .describe(43, 36, 51, 10, 0, true).faults(11, 4);
        gate(JUMP, 0, 32, 0, 4, 0).describe(8, 4, 61, 6, 0, true).faults(13, 0);
        gate(JUMP, 0, 32, 0, 4, 0).describe(8, 4, 60, 6, 0, true).goes().state(Rig.IP, 60);
        for (int operation : new int[] {JUMP, CALL}) {
            gate(operation, 3, 32, 2, 12, 0).faults(13, 32);
            gate(operation, 3, 32, 3, 12, 0).goes().holds(Rig.CS, 15);
            gate(operation, 0, 33, 0, 4, 0).faults(13, 32);
            gate(operation, 0, 33, 1, 4, 0).goes().holds(Rig.CS, 4);
            gate(operation, 0, 34, 1, 4, 0).describe(8, 4, 9, 6, 1, false).faults(13, 32);
            gate(operation, 0, 33, 1, 4, 0).describe(8, 4, 9, 6, 1, false).faults(11, 32);
        }
    }

    private static void deepEntry() {
        for (int count = 0; count <= 8; count++) {
            int carried = count % 8;
            Rig rig = gate(CALL, 3, 35, 3, 7, 16 + count).memory(Rig.STACK3 + 30, 81, 82, 83, 84, 85, 86, 87, 88);
            rig.goes().holds(Rig.CS, 4, 200, 60, 4, 0).holds(Rig.SS, 8, 270, 40, 2, 0).state(Rig.IP, 9);
            rig.state(Rig.SP, 31 - carried).lies(Rig.STACK0 + 31 - carried, 3, 15);
            for (int i = 0; i < carried; i++) {
                rig.lies(Rig.STACK0 + 33 - carried + i, 81 + i);
            }
            rig.lies(Rig.STACK0 + 33, 30, 19, 0).lies(Rig.STACK3 + 28, 0, 0, 81);
        }
        for (int level = 1; level <= 2; level++) {
            gate(CALL, 3, 35, 3, 36, 0).describe(9, 590, 30, 3, level, true).describe(10, 545, 30, 2, level, true)
                .memory(Rig.TASK5 + 2 * level + 1, 20, 40 + level).goes()
                .holds(Rig.CS, 36 + level, 590, 30, 3, level).holds(Rig.SS, 40 + level, 545, 30, 2, level)
                .state(Rig.SP, 16).lies(545 + 16, 3, 15, 30, 19);
        }
    }

    private static void deepEntryStacks() {
        Rig.level3("the outer stack's end").describe(8, 4, 9, 6, 3, true).memory(35, 2).code(CALL, 0, 35)
            .set(Rig.SP, 39).memory(Rig.STACK3 + 39, 91, 92).goes().lies(Rig.STACK0 + 29, 3, 15, 91, 92, 39, 19);
        Rig.level3("beyond the outer stack").describe(8, 4, 9, 6, 3, true).memory(35, 2).code(CALL, 0, 35)
            .set(Rig.SP, 40).faults(12, 0).lies(Rig.STACK0 + 33, 40, 19);
        Rig.level3("the outer stack goes round").describe(4, 600, 65535, 2, 3, true).force(Rig.SS, 19)
            .describe(8, 4, 9, 6, 3, true).memory(35, 2).code(CALL, 0, 35)
            .set(Rig.SP, 65535).memory(599, 91, 92).goes().lies(Rig.STACK0 + 29, 3, 15, 91, 92, 65535, 19);
        Rig.level3("no outer stack").force(Rig.SS, 0).describe(8, 4, 9, 6, 3, true).memory(35, 1).code(CALL, 0, 35)
            .faults(13, 0);
        Rig.level3("no outer stack and no words").force(Rig.SS, 0).describe(8, 4, 9, 6, 3, true).code(CALL, 0, 35)
            .goes().lies(Rig.STACK0 + 31, 3, 15, 30, 0);
        Rig.level3("the inner stack is full").describe(8, 36, 9, 6, 3, true).describe(9, 200, 60, 4, 1, true)
            .describe(10, 600, 10, 2, 1, true).memory(Rig.TASK5 + 3, 3, 41).code(CALL, 0, 35).faults(12, 0)
            .lies(600, 0, 0, 0);
        // The stack lies so that the old SS, 19, is pushed as the word of the code's kind: it is not there then.
        Rig.level3("pushing onto the table").describe(8, 36, 9, 6, 3, true).describe(9, 200, 60, 4, 1, true)
            .describe(10, 30, 10, 2, 1, true).memory(Rig.TASK5 + 3, 9, 41).code(CALL, 0, 35)
            .faults(11, 36).lies(36, 200, 60, 4 + 16 + 64);
    }

    private static void deepEntryFaults() {
        gate(CALL, 3, 35, 3, 3, 0).faults(13, 0);
        gate(CALL, 3, 35, 3, 131, 0).faults(13, 128);
        gate(CALL, 3, 35, 3, 10, 0).faults(13, 8);
        deep(true, 60, 35, 8).describe(9, 200, 60, 4, 0, false).raises(11, 36);
        deep(true, 8, 35, 8).raises(13, 0);
        deep(true, 9, 35, 8).goes();
        deep(true, 60, 35, 3).raises(10, 0);
        deep(true, 60, 35, 129).raises(10, 128);
        deep(true, 60, 35, 9).raises(10, 8);
        deep(true, 60, 35, 28).raises(10, 28);
        deep(true, 60, 35, 40).describe(10, 600, 20, 1, 0, true).raises(10, 40);
        deep(true, 60, 35, 40).describe(10, 600, 20, 1, 0, false).raises(10, 40);
        deep(true, 60, 35, 40).describe(10, 600, 20, 2, 0, false).raises(12, 40);
        // The code is looked at before the task, and the task before the stack.
        deep(true, 8, 35, 9).raises(13, 0);
        deep(false, 8, 35, 9).raises(13, 0);
        deep(false, 60, 35, 8).raises(10, 0);
        deep(true, 60, 35, 8).describe(5, Rig.TASK5, 2, 8, 0, true).force(Rig.TR, 20).goes();
        deep(true, 60, 35, 8).describe(5, Rig.TASK5, 1, 8, 0, true).force(Rig.TR, 20).raises(13, 0);
    }

    /** CALL at level 3 to offset 9 of code 9 of rank 0; the faults are taken by easy code at level 3. */
    private static Rig deep(boolean task, int limit, int sp, int stack) {
        Rig rig = gate(CALL, 3, 35, 3, 36, 0).describe(9, 200, limit, 4, 0, true).describe(11, 200, 60, 5, 0, true);
        for (int v : Rig.FAULT_VECTORS) {
            rig.describe(32 + v, 44, 40 + v, 10, 0, true);
        }
        return rig.memory(Rig.TASK5 + 1, sp, stack).force(Rig.TR, task ? 20 : 0);
    }

    private static void deepEntryWithoutDepth() {
        gate(CALL, 0, 32, 0, 7, 3).goes().holds(Rig.CS, 4).state(Rig.IP, 9).state(Rig.SP, 28)
            .lies(Rig.STACK0 + 27, 0, 3, 4, 0);
        gate(CALL, 3, 35, 3, 12, 3).goes().holds(Rig.CS, 15).holds(Rig.SS, 19).state(Rig.SP, 28)
            .lies(Rig.STACK3 + 27, 0, 3, 15, 0);
        gate(CALL, 3, 35, 3, 36, 3).describe(9, 590, 30, 5, 1, true).goes().holds(Rig.CS, 39, 590, 30, 5, 1)
            .holds(Rig.SS, 19).state(Rig.SP, 28).lies(Rig.STACK3 + 27, 0, 3, 15, 0);
        gate(CALL, 0, 32, 0, 12, 0).faults(13, 12);
        gate(CALL, 0, 32, 0, 36, 0).describe(9, 590, 30, 5, 1, true).faults(13, 36);
        gate(CALL, 3, 35, 3, 36, 0).describe(9, 590, 30, 5, 1, false).faults(11, 36);
        gate(CALL, 3, 35, 3, 36, 0).describe(9, 590, 30, 5, 1, false).set(Rig.SP, 1).faults(12, 0);
    }

    private static void returnsWithin() {
        Rig.level0("RETURN").memory(Rig.STACK0 + 30, 9, 4).code(RETURN, 0).goes()
            .holds(Rig.CS, 4).state(Rig.IP, 9).state(Rig.SP, 32);
        Rig.level0("RETURN 5").memory(Rig.STACK0 + 30, 9, 4).code(RETURN, 5).goes().state(Rig.SP, 37);
        Rig.level0("RETURN 65535").memory(Rig.STACK0 + 30, 9, 4).code(RETURN, 65535).goes().state(Rig.SP, 31);
        Rig.level3("RETURN at 3").memory(Rig.STACK3 + 30, 9, 15).force(Rig.DS, 8).code(RETURN, 1).goes()
            .holds(Rig.CS, 15).state(Rig.IP, 9).state(Rig.SP, 33).holds(Rig.SS, 19).holds(Rig.DS, 8);
        Rig.level3("RETURN inwards").memory(Rig.STACK3 + 30, 9, 14).code(RETURN, 0).faults(13, 12);
        Rig.level3("RETURN to level 0").memory(Rig.STACK3 + 30, 9, 4).code(RETURN, 0).faults(13, 4);
        Rig.level0("RETURN to none").memory(Rig.STACK0 + 30, 9, 0).code(RETURN, 0).faults(13, 0);
        Rig.level0("RETURN to a wrong one").memory(Rig.STACK0 + 30, 9, 128).code(RETURN, 0).faults(13, 128);
        Rig.level0("RETURN to data").memory(Rig.STACK0 + 30, 9, 8).code(RETURN, 0).faults(13, 8);
        Rig.level0("RETURN to another rank").memory(Rig.STACK0 + 30, 9, 12).code(RETURN, 0).faults(13, 12);
        Rig.level0("RETURN above the limit").memory(Rig.STACK0 + 30, 61, 4).code(RETURN, 0).faults(13, 0);
        Rig.level3("RETURN of one word").memory(Rig.STACK3 + 40, 9).set(Rig.SP, 40).code(RETURN, 0).faults(12, 0);
        Rig.level3("RETURN of no word").set(Rig.SP, 41).code(RETURN, 0).faults(12, 0);
        Rig.level3("RETURN at the end").memory(Rig.STACK3 + 39, 9, 15).set(Rig.SP, 39).code(RETURN, 0).goes()
            .state(Rig.SP, 41);
    }

    /** RETURN n at level 0 with these words on the stack. */
    private static Rig out(int n, int offset, int c, int p, int t) {
        Rig rig = Rig.level0("RETURN " + n + " out to " + c + " with " + t).memory(Rig.STACK0 + 30, offset, c);
        return rig.memory(Rig.STACK0 + 32 + n, p, t).code(RETURN, n);
    }

    private static void returnsOut() {
        out(0, 9, 15, 20, 19).goes().holds(Rig.CS, 15, 320, 60, 4, 3).holds(Rig.SS, 19, 390, 40, 2, 3)
            .state(Rig.IP, 9).state(Rig.SP, 20).state(Rig.LEVEL, 3);
        out(4, 9, 15, 20, 19).goes().state(Rig.SP, 24);
        out(4, 9, 15, 65534, 19).goes().state(Rig.SP, 2);
        out(0, 9, 38, 20, 42).describe(9, 600, 9, 5, 1, true).describe(10, 545, 30, 2, 2, true).goes()
            .holds(Rig.CS, 38, 600, 9, 5, 1).holds(Rig.SS, 42);
        out(0, 61, 15, 20, 19).faults(13, 0);
        out(0, 9, 7, 20, 19).faults(13, 4);
        out(0, 9, 3, 20, 19).faults(13, 0);
        out(0, 9, 131, 20, 19).faults(13, 128);
        out(0, 9, 15, 20, 18).faults(13, 16);
        out(0, 9, 15, 20, 8).faults(13, 8);
        out(0, 9, 15, 20, 3).faults(13, 0);
        out(0, 9, 15, 20, 131).faults(13, 128);
        out(0, 9, 15, 20, 19).describe(4, 390, 40, 2, 3, false).faults(12, 16);
        out(0, 9, 15, 20, 19).describe(3, 320, 60, 4, 3, false).faults(11, 12);
        // The code is entered before the stack is loaded, and all is popped before that.
        out(0, 61, 15, 20, 18).faults(13, 0);
        Rig.level0("RETURN out of three words").memory(Rig.STACK0 + 38, 99, 15, 20).set(Rig.SP, 38).code(RETURN, 0)
            .faults(12, 0);
        Rig.level0("RETURN out beyond the stack").memory(Rig.STACK0 + 30, 9, 15).code(RETURN, 9).faults(12, 0);

        for (int rank = 0; rank <= 3; rank++) {
            for (int kind : new int[] {1, 2, 4, 5}) {
                for (int q = Rig.DS; q <= Rig.ES; q++) {
                    // What the segment was loaded with counts, not what the descriptor is now.
                    Rig rig = out(0, 9, 15, 20, 19).describe(8, 600, 10, kind, rank, true).force(q, 33)
                        .describe(8, 600, 10, 9, 3 - rank, true).goes();
                    if (kind == 5 || rank == 3) {
                        rig.holds(q, 33, 600, 10, kind, rank);
                    } else {
                        rig.holds(q, 0, 0, 0, 0, 0);
                    }
                }
            }
        }
        out(0, 9, 38, 20, 42).describe(9, 600, 9, 3, 2, true).describe(10, 545, 30, 2, 2, true)
            .describe(8, 600, 10, 1, 2, true).force(Rig.DS, 32).force(Rig.ES, 8).goes()
            .holds(Rig.DS, 32).holds(Rig.ES, 0, 0, 0, 0, 0);
    }
}
