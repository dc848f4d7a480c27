/** Terms: how an instruction is made up, fault 6, and the operations but for LOADING, transfers and tasks. */
public final class InstructionEdgesTest {
    private static final int MOST_OPERATION = 21;
    /** By operation: the least and the greatest Q, where Q is not free. */
    private static final int[][] QS = {
        {2, 0, 4}, {3, 0, 4}, {4, 0, 4}, {5, 0, 4}, {6, 0, 3}, {7, 0, 3}, {13, 1, 3}, {14, 0, 4}, {21, 0, 4}
    };

    public static void main(String[] args) {
        otherOperations();
        badR();
        badQ();
        freeQ();
        fault6First();
        stops();
        sets();
        calculates();
        compares();
        goes();
        pushesAndPops();
        tells();
        adjusts();
        readsIntoRegisters();
        Rig.finish();
    }

    private static void otherOperations() {
        Rig.sentence("Fault 6, 0 for another operation, or R or Q that are not as said.");
        for (int operation = MOST_OPERATION + 1; operation <= 1023; operation++) {
            Rig.level0("operation " + operation).code(Rig.op(operation, 0, 1)).raises(6, 0);
        }
        for (int word : new int[] {64 * 22, 64 * 22 + 36, 65535, 65472, 32768}) {
            Rig.faulty(6, 0, () -> Rig.level0("the word " + word).code(word, 1, 4));
            Rig.faulty(6, 0, () -> Rig.level3("the word " + word + " at level 3").code(word, 1, 4));
        }
    }

    private static void badR() {
        Rig.sentence("INSTRUCTIONS: a word 64 * OPERATION + 8 * R + Q (R, Q 0 .. 7; OPERATION up to 1023); R, and Q where it"
            + " is a register, are 0 .. 4; then perhaps words n, m.");
        for (int operation = 0; operation <= MOST_OPERATION; operation++) {
            for (int r = 5; r <= 7; r++) {
                int word = Rig.op(operation, r, 1);
                String name = "R " + r + " of " + operation;
                Rig.faulty(6, 0, () -> Rig.level0(name).memory(Rig.STACK0 + 30, 9, 4, 0).code(word, 5, 4));
            }
        }
    }

    private static void badQ() {
        for (int[] one : QS) {
            for (int q = 0; q <= 7; q++) {
                if (q < one[1] || q > one[2]) {
                    int word = Rig.op(one[0], 0, q);
                    String name = "Q " + q + " of " + one[0];
                    Rig.faulty(6, 0, () -> Rig.level0(name).code(word, 5, 4));
                }
            }
            // The least and the greatest, with the greatest R; SP is a selector that can be loaded.
            boolean writesCode = one[0] == 7;
            if (!writesCode) {
                Rig.level0("the least Q of " + one[0]).set(Rig.SP, 8).code(Rig.op(one[0], 4, one[1]), 5).goes();
            }
            Rig.level0("the greatest Q of " + one[0]).set(Rig.SP, 8).code(Rig.op(one[0], 4, one[2]), 5).goes();
        }
    }

    private static void freeQ() {
        for (int operation : new int[] {1, 8, 9, 10, 11, 12}) {
            for (int q = 0; q <= 7; q++) {
                Rig.level0("Q " + q + " of " + operation).code(Rig.op(operation, 4, q), 5).goes();
            }
        }
        for (int q = 0; q <= 7; q++) {
            Rig.level0("Q " + q + " of STOP").code(Rig.op(0, 4, q)).goes().state(Rig.HALT, 1);
            Rig.level0("Q " + q + " of JUMP").code(Rig.op(15, 4, q), 5, 4).goes().state(Rig.IP, 5);
            Rig.level0("Q " + q + " of CALL").code(Rig.op(16, 4, q), 5, 4).goes().state(Rig.IP, 5);
            Rig.level0("Q " + q + " of RETURN").memory(Rig.STACK0 + 30, 9, 4).code(Rig.op(17, 4, q), 0).goes()
                .state(Rig.IP, 9);
            Rig.level0("Q " + q + " of TRAP").code(Rig.op(18, 4, q), 6).goes().state(Rig.IP, 46);
            Rig.level0("Q " + q + " of BACK").memory(Rig.STACK0 + 30, 9, 4, 0).code(Rig.op(19, 4, q)).goes()
                .state(Rig.IP, 9);
            Rig.level0("Q " + q + " of TASK").set(Rig.SP, 24).code(Rig.op(20, 4, q)).goes().holds(Rig.TR, 24);
        }
    }

    private static void fault6First() {
        Rig.sentence("Fault 6, 0 for another operation, or R or Q that are not as said.");
        Rig.faulty(6, 0, () -> Rig.level3("STOP").code(Rig.op(0, 5, 0)));
        Rig.faulty(6, 0, () -> Rig.level3("TASK").code(Rig.op(20, 7, 0)));
        Rig.faulty(6, 0, () -> Rig.level0("READ without a segment").code(Rig.op(6, 5, 1), 0));
        Rig.faulty(6, 0, () -> Rig.level0("PUSH without a stack").force(Rig.SS, 0).code(Rig.op(11, 5, 0)));
        Rig.faulty(6, 0, () -> Rig.level0("LOAD of a wrong selector").set(Rig.A, 128).code(Rig.op(13, 0, 4)));
        Rig.faulty(6, 0, () -> Rig.level0("LOAD of CS").set(Rig.A, 4).code(Rig.op(13, 0, 0)));
        // At the end of the code, where n could not be fetched.
        Rig.faulty(6, 0, () -> Rig.level0("SET").set(Rig.IP, 60).memory(Rig.CODE0 + 60, Rig.op(1, 5, 0)));
        Rig.faulty(6, 0, () -> Rig.level0("READ").set(Rig.IP, 60).memory(Rig.CODE0 + 60, Rig.op(6, 0, 4)));
    }

    private static void stops() {
        Rig.sentence("0 STOP: the machine STOPS; 13, 0 unless the level is 0.");
        Rig.at(0, "level 0").code(0).goes().state(Rig.HALT, 1).state(Rig.IP, 1);
        for (int level = 1; level <= 3; level++) {
            int its = level;
            Rig.faulty(13, 0, () -> Rig.at(its, "level " + its).code(0));
            Rig.at(level, "level " + level).code(0).faults(13, 0).state(Rig.HALT, 0);
        }
    }

    private static void sets() {
        Rig.sentence("1 SET n: R becomes n. 2 MOVE: R becomes register Q.");
        for (int r = 0; r <= 4; r++) {
            for (int n : new int[] {0, 65535}) {
                Rig.level0("SET " + r).set(r, 5).set(Rig.FLAGS, 7).code(Rig.op(1, r, 0), n).goes().state(r, n)
                    .state(Rig.FLAGS, 7);
                Rig.level0("MOVE " + r).set(r, 5).set((r + 1) % 5, n).set(Rig.FLAGS, 7).code(Rig.op(2, r, (r + 1) % 5))
                    .goes().state(r, n).state((r + 1) % 5, n).state(Rig.FLAGS, 7);
            }
        }
    }

    private static void calculates() {
        Rig.sentence("3 ADD: R + Q. 4 SUB: R - Q. 5 COMPARE: R - Q, which is not kept.");
        for (int r = 0; r <= 4; r++) {
            for (int q = 0; q <= 4; q++) {
                int one = r == q ? 7 : 65533;
                int sum = r == q ? 14 : 4;
                int difference = r == q ? 0 : 65526;
                Rig.level0("ADD " + r + ", " + q).set(r, one).set(q, 7).code(Rig.op(3, r, q)).goes().state(r, sum);
                Rig.level0("SUB " + r + ", " + q).set(r, one).set(q, 7).code(Rig.op(4, r, q)).goes().state(r, difference);
                Rig.level0("COMPARE " + r + ", " + q).set(r, one).set(q, 7).code(Rig.op(5, r, q)).goes().state(r, one)
                    .state(q, 7).state(Rig.FLAGS, r == q ? Rig.Z : Rig.N);
            }
        }
    }

    private static void compares() {
        Rig.sentence("(3 to 5: Z tells whether the result is 0, N whether it is 32768 or more.)");
        int[][] results = {{0, 1}, {1, 0}, {32767, 0}, {32768, 2}, {32769, 2}, {65535, 2}};
        for (int[] one : results) {
            for (int before : new int[] {0, 1, 2, 3, 4, 7}) {
                int flags = one[1] + (before & 4);
                Rig.level0("ADD to " + one[0]).set(Rig.A, (one[0] - 9) & 65535).set(Rig.B, 9).set(Rig.FLAGS, before)
                    .code(Rig.op(3, 0, 1)).goes().state(Rig.A, one[0]).state(Rig.FLAGS, flags);
                Rig.level0("SUB to " + one[0]).set(Rig.A, (one[0] + 9) & 65535).set(Rig.B, 9).set(Rig.FLAGS, before)
                    .code(Rig.op(4, 0, 1)).goes().state(Rig.A, one[0]).state(Rig.FLAGS, flags);
                Rig.level0("COMPARE to " + one[0]).set(Rig.A, (one[0] + 9) & 65535).set(Rig.B, 9)
                    .set(Rig.FLAGS, before).code(Rig.op(5, 0, 1)).goes().state(Rig.A, (one[0] + 9) & 65535)
                    .state(Rig.FLAGS, flags);
            }
        }
        Rig.level0("a register and itself").set(Rig.A, 65535).code(Rig.op(4, 0, 0)).goes().state(Rig.A, 0)
            .state(Rig.FLAGS, 1);
        Rig.level0("twice a register").set(Rig.A, 49152).code(Rig.op(3, 0, 0)).goes().state(Rig.A, 32768)
            .state(Rig.FLAGS, 2);
    }

    private static void goes() {
        Rig.sentence("8 GO n: IP becomes n. 9 ZERO n: if Z. 10 OTHER n: if not Z.");
        for (int flags = 0; flags <= 7; flags++) {
            for (int n : new int[] {0, 9, 60, 61, 65535}) {
                boolean z = flags % 2 == 1;
                Rig.level0("GO").set(Rig.FLAGS, flags).code(Rig.op(8, 0, 0), n).goes().state(Rig.IP, n);
                Rig.level0("ZERO").set(Rig.FLAGS, flags).code(Rig.op(9, 0, 0), n).goes().state(Rig.IP, z ? n : 2);
                Rig.level0("OTHER").set(Rig.FLAGS, flags).code(Rig.op(10, 0, 0), n).goes().state(Rig.IP, z ? 2 : n)
                    .state(Rig.FLAGS, flags);
            }
        }
        // The limit is looked at when the next instruction is fetched, and the fault is that one's.
        Rig.level0("GO above the limit").code(Rig.op(8, 0, 0), 61).goes().faults(13, 0).lies(Rig.STACK0 + 27, 61);
    }

    private static void pushesAndPops() {
        Rig.sentence("11 PUSH: R. 12 POP: R.");
        for (int r = 0; r <= 4; r++) {
            int pushed = r == Rig.SP ? 30 : 65535;
            Rig.level0("PUSH " + r).set(r, pushed).code(Rig.op(11, r, 0)).goes().state(Rig.SP, 29)
                .lies(Rig.STACK0 + 28, 0, pushed, 0);
            Rig rig = Rig.level0("POP " + r).memory(Rig.STACK0 + 30, 65535).code(Rig.op(12, r, 0)).goes().state(r, 65535);
            if (r != Rig.SP) {
                rig.state(Rig.SP, 31);
            }
        }
    }

    private static void tells() {
        Rig.sentence("14 TELL: R becomes the selector of segment Q (0 .. 4; 0 if it has none).");
        for (int q = Rig.DS; q <= Rig.TR; q++) {
            Rig.level0("TELL " + q).force(q, 31).set(Rig.A, 9).code(Rig.op(14, 0, q)).goes().state(Rig.A, 31);
            Rig.level0("TELL " + q + ", none").force(q, 3).set(Rig.A, 9).code(Rig.op(14, 0, q)).goes().state(Rig.A, 0);
            Rig.level0("TELL " + q + ", the greatest").describe(31, 0, 0, 1, 0, true).force(q, 127)
                .code(Rig.op(14, 0, q)).goes().state(Rig.A, 127);
        }
        for (int level = 0; level <= 2; level++) {
            Rig.at(level, "TELL CS").set(Rig.A, 9).code(Rig.op(14, 0, Rig.CS)).goes().state(Rig.A, 4 + level);
        }
    }

    private static void adjusts() {
        Rig.sentence("21 ADJUST: if R's wish is less than Q's, it becomes that, and Z is set; otherwise Z is not set.");
        for (int own = 0; own <= 3; own++) {
            for (int wish = 0; wish <= 3; wish++) {
                for (int flags = 0; flags <= 7; flags++) {
                    for (int selector : new int[] {0, 4, 124, 128, 65532}) {
                        Rig.level0("ADJUST " + own + " by " + wish).set(Rig.A, selector + own).set(Rig.B, 65532 + wish)
                            .set(Rig.FLAGS, flags).code(Rig.op(21, 0, 1)).goes()
                            .state(Rig.A, selector + Math.max(own, wish)).state(Rig.B, 65532 + wish)
                            .state(Rig.FLAGS, flags / 2 * 2 + (own < wish ? 1 : 0));
                    }
                }
            }
            Rig.level0("ADJUST by itself").set(Rig.A, 4 + own).set(Rig.FLAGS, 7).code(Rig.op(21, 0, 0)).goes()
                .state(Rig.A, 4 + own).state(Rig.FLAGS, 6);
        }
    }

    private static void readsIntoRegisters() {
        Rig.sentence("6 READ n: R becomes the word at n + X of segment Q (0 .. 3). 7 WRITE n: that word becomes R.");
        for (int r = 0; r <= 4; r++) {
            for (int q = 1; q <= 3; q++) {
                Rig.level0("READ " + r + " of " + q).describe(8, 600, 9, 2, 0, true).force(q, 32).memory(606, 44)
                    .set(Rig.X, 2).set(Rig.FLAGS, 7).code(Rig.op(6, r, q), 4).goes().state(r, 44).state(Rig.FLAGS, 7);
                Rig.level0("WRITE " + r + " to " + q).describe(8, 600, 9, 2, 0, true).force(q, 32).set(r, 65533)
                    .set(Rig.X, r == Rig.X ? 2 : 3).set(r == Rig.X ? Rig.A : r, 65533).code(Rig.op(7, r, q), 3).goes()
                    .lies(r == Rig.X ? 605 : 606, r == Rig.X ? 2 : 65533);
            }
        }
    }
}
