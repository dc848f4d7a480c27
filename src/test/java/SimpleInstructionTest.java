/** Promise 7: fetching, decoding, and the operations 0 to 12, 14 and 21. */
public final class SimpleInstructionTest {
    public static void main(String[] args) {
        fetches();
        decodes();
        lengths();
        moves();
        calculates();
        goes();
        readsAndWrites();
        pushesAndPops();
        tells();
        adjusts();
        Rig.finish();
    }

    private static void fetches() {
        Rig.level0("last word of CS").set(Rig.IP, 60).memory(Rig.CODE0 + 60, Rig.op(2, 0, 0)).goes().state(Rig.IP, 61);
        Rig.level0("behind CS").set(Rig.IP, 61).memory(Rig.CODE0 + 61, Rig.op(2, 0, 0)).faults(13, 0);
        for (int operation : new int[] {1, 6, 7, 8, 9, 10, 15, 16, 17, 18}) {
            Rig.level0("n of " + operation + " behind CS").set(Rig.IP, 60)
                .memory(Rig.CODE0 + 60, Rig.op(operation, 0, 3), 0, 4).faults(13, 0);
        }
        Rig.level0("m of JUMP behind CS").set(Rig.IP, 59).memory(Rig.CODE0 + 59, Rig.op(15, 0, 0), 5, 4).faults(13, 0);
        Rig.level0("m of CALL behind CS").set(Rig.IP, 59).memory(Rig.CODE0 + 59, Rig.op(16, 0, 0), 5, 4).faults(13, 0);
        Rig.level0("no CS").force(Rig.CS, 0).faults(13, 0);
        Rig.level0("code that is not read").describe(1, Rig.CODE0, 60, 3, 0, true).force(Rig.CS, 4)
            .code(Rig.op(1, 2, 0), 9).goes().state(Rig.C, 9);
        Rig.level0("behind the memory").describe(1, 640, 60, 4, 0, true).force(Rig.CS, 4).faults(6, 0);
        Rig.level0("IP goes round").describe(8, 301, 65535, 4, 0, true).force(Rig.CS, 32).set(Rig.IP, 65535)
            .memory(300, Rig.op(1, 1, 0), 77).goes().state(Rig.B, 77).state(Rig.IP, 1);
        Rig.level0("base goes round").describe(8, 65530, 65535, 4, 0, true).force(Rig.CS, 32).set(Rig.IP, 200 + 6)
            .memory(200, Rig.op(1, 1, 0), 78).goes().state(Rig.B, 78).state(Rig.IP, 208);
    }

    private static void decodes() {
        for (int operation = 22; operation <= 1023; operation += 77) {
            Rig.level0("operation " + operation).code(Rig.op(operation, 0, 0)).faults(6, 0);
        }
        Rig.level0("operation 1023").code(65535).faults(6, 0);
        for (int operation = 0; operation <= 21; operation++) {
            for (int r = 5; r <= 7; r++) {
                Rig.level0("R " + r + " of " + operation).code(Rig.op(operation, r, 1)).faults(6, 0);
            }
        }
        int[][] tooHigh = {{2, 5}, {3, 5}, {4, 5}, {5, 5}, {6, 4}, {7, 4}, {13, 4}, {14, 5}, {21, 5}};
        for (int[] pair : tooHigh) {
            for (int q = pair[1]; q <= 7; q++) {
                Rig.level0("Q " + q + " of " + pair[0]).code(Rig.op(pair[0], 0, q)).faults(6, 0);
            }
        }
        Rig.level0("LOAD of CS").code(Rig.op(13, 0, 0)).faults(6, 0);
        Rig.level0("Q of SET is free").code(Rig.op(1, 0, 7), 5).goes().state(Rig.A, 5);
        Rig.level0("Q of GO is free").code(Rig.op(8, 4, 7), 5).goes().state(Rig.IP, 5);
        Rig.level0("bad R before n").set(Rig.IP, 60).memory(Rig.CODE0 + 60, Rig.op(1, 5, 0)).faults(6, 0);
    }

    /** How long the operations are that go on behind themselves, with the greatest R and Q that they allow. */
    private static void lengths() {
        int[][] operationQLength = {
            {0, 7, 1}, {1, 7, 2}, {2, 4, 1}, {3, 4, 1}, {4, 4, 1}, {5, 4, 1}, {6, 3, 2}, {7, 3, 2}, {9, 7, 2},
            {11, 7, 1}, {12, 7, 1}, {14, 4, 1}, {21, 4, 1}
        };
        for (int[] one : operationQLength) {
            Rig.level0("length of " + one[0]).code(Rig.op(one[0], 4, one[1]), 9).goes().state(Rig.IP, one[2]);
        }
        Rig.level0("length of OTHER").set(Rig.FLAGS, 1).code(Rig.op(10, 4, 7), 9).goes().state(Rig.IP, 2);
        Rig.level0("length of LOAD").set(Rig.SP, 8).code(Rig.op(13, 4, 3)).goes().state(Rig.IP, 1);
        Rig.level0("length of TASK").set(Rig.SP, 24).code(Rig.op(20, 4, 7)).goes().state(Rig.IP, 1).holds(Rig.TR, 24);
        Rig.level0("end of JUMP").set(Rig.IP, 58).memory(Rig.CODE0 + 58, Rig.op(15, 4, 7), 9, 4).goes().state(Rig.IP, 9);
        Rig.level0("end of CALL").set(Rig.IP, 58).memory(Rig.CODE0 + 58, Rig.op(16, 4, 7), 9, 4).goes().state(Rig.IP, 9)
            .lies(Rig.STACK0 + 28, 61, 4);
        Rig.level0("end of RETURN").set(Rig.IP, 59).memory(Rig.CODE0 + 59, Rig.op(17, 4, 7), 0)
            .memory(Rig.STACK0 + 30, 9, 4).goes().state(Rig.IP, 9);
        Rig.level0("end of TRAP").set(Rig.IP, 59).memory(Rig.CODE0 + 59, Rig.op(18, 4, 7), 6).goes().state(Rig.IP, 46)
            .lies(Rig.STACK0 + 27, 61, 4);
        Rig.level0("end of BACK").set(Rig.IP, 60).memory(Rig.CODE0 + 60, Rig.op(19, 4, 7))
            .memory(Rig.STACK0 + 30, 9, 4, 0).goes().state(Rig.IP, 9);
        Rig.level0("end of GO").set(Rig.IP, 59).memory(Rig.CODE0 + 59, Rig.op(8, 4, 7), 9).goes().state(Rig.IP, 9);
    }

    private static void moves() {
        for (int r = 0; r <= 4; r++) {
            Rig.level0("SET " + r).set(Rig.FLAGS, 3).code(Rig.op(1, r, 0), 65535).goes()
                .state(r, 65535).state(Rig.IP, 2).state(Rig.FLAGS, 3);
            for (int q = 0; q <= 4; q++) {
                Rig.level0("MOVE").set(r, 5).set(q, 900).code(Rig.op(2, r, q)).goes()
                    .state(r, 900).state(q, 900).state(Rig.IP, 1).state(Rig.FLAGS, 0);
            }
        }
    }

    private static void calculates() {
        calculation(3, 5, 7, 12, 0);
        calculation(3, 0, 0, 0, Rig.Z);
        calculation(3, 65535, 1, 0, Rig.Z);
        calculation(3, 65535, 65535, 65534, Rig.N);
        calculation(3, 32767, 0, 32767, 0);
        calculation(3, 32767, 1, 32768, Rig.N);
        calculation(4, 7, 5, 2, 0);
        calculation(4, 5, 7, 65534, Rig.N);
        calculation(4, 7, 7, 0, Rig.Z);
        calculation(4, 0, 32768, 32768, Rig.N);
        calculation(4, 0, 32769, 32767, 0);
        calculation(5, 5, 7, 5, Rig.N);
        calculation(5, 7, 7, 7, Rig.Z);
        calculation(5, 7, 5, 7, 0);
    }

    private static void calculation(int operation, int one, int other, int result, int flags) {
        for (int before : new int[] {0, 3, 4, 7}) {
            Rig.level0("operation " + operation + " of " + one + " and " + other)
                .set(Rig.A, one).set(Rig.C, other).set(Rig.FLAGS, before).code(Rig.op(operation, Rig.A, Rig.C)).goes()
                .state(Rig.A, result).state(Rig.C, other).state(Rig.FLAGS, (before & Rig.NESTED) + flags);
        }
    }

    private static void goes() {
        Rig.level0("GO").code(Rig.op(8, 0, 0), 9).goes().state(Rig.IP, 9);
        Rig.level0("GO behind the limit").code(Rig.op(8, 0, 0), 65535).goes().state(Rig.IP, 65535).faults(13, 0);
        Rig.level0("ZERO when Z").set(Rig.FLAGS, 1).code(Rig.op(9, 0, 0), 9).goes().state(Rig.IP, 9);
        Rig.level0("ZERO when not Z").set(Rig.FLAGS, 6).code(Rig.op(9, 0, 0), 9).goes().state(Rig.IP, 2);
        Rig.level0("OTHER when Z").set(Rig.FLAGS, 7).code(Rig.op(10, 0, 0), 9).goes().state(Rig.IP, 2);
        Rig.level0("OTHER when not Z").set(Rig.FLAGS, 2).code(Rig.op(10, 0, 0), 9).goes().state(Rig.IP, 9);
    }

    private static Rig withData(String name, int kind) {
        return Rig.level0(name).describe(8, 600, 10, kind, 3, true).force(Rig.DS, 32)
            .memory(600, 50, 51, 52, 53, 54, 55, 56, 57, 58, 59, 60, 61);
    }

    private static void readsAndWrites() {
        int read = Rig.op(6, 1, Rig.DS);
        int write = Rig.op(7, 1, Rig.DS);
        for (int kind : new int[] {1, 2, 4, 5, 6, 7, 15}) {
            withData("READ of kind " + kind, kind).code(read, 3).goes().state(Rig.B, 53).state(Rig.IP, 2);
        }
        withData("READ of kind 3", 3).code(read, 3).faults(13, 0);
        withData("READ of none", 0).code(read, 3).faults(13, 0);
        withData("READ at the limit", 1).code(read, 10).goes().state(Rig.B, 60);
        withData("READ above the limit", 1).code(read, 11).faults(13, 0);
        withData("READ at n + X", 1).set(Rig.X, 4).code(read, 5).goes().state(Rig.B, 59);
        withData("READ at n + X above the limit", 1).set(Rig.X, 6).code(read, 5).faults(13, 0);
        withData("READ goes round", 1).set(Rig.X, 65535).code(read, 3).goes().state(Rig.B, 52);
        withData("READ of CS", 1).code(Rig.op(6, 1, Rig.CS), 1).goes().state(Rig.B, 1);
        withData("READ of ES", 1).force(Rig.ES, 33).code(Rig.op(6, 1, Rig.ES), 2).goes().state(Rig.B, 52);
        withData("READ above SS", 1).code(Rig.op(6, 1, Rig.SS), 41).faults(12, 0);
        withData("READ without ES", 1).code(Rig.op(6, 1, Rig.ES), 0).faults(13, 0);
        Rig.level0("READ behind the memory").describe(8, 635, 10, 1, 3, true).force(Rig.DS, 32).memory(639, 9)
            .code(read, 4, read, 5).goes().state(Rig.B, 9).goes().state(Rig.B, 65535);

        withData("WRITE", 2).set(Rig.B, 7).set(Rig.X, 1).code(write, 3).goes().lies(603, 53, 7, 55);
        withData("WRITE at the limit", 2).set(Rig.B, 7).code(write, 10).goes().lies(610, 7, 61);
        withData("WRITE above the limit", 2).set(Rig.B, 7).code(write, 11).faults(13, 0).lies(610, 60, 61);
        withData("WRITE above SS", 2).code(Rig.op(7, 1, Rig.SS), 41).faults(12, 0);
        withData("WRITE to SS", 2).set(Rig.B, 7).code(Rig.op(7, 1, Rig.SS), 40).goes().lies(Rig.STACK0 + 40, 7);
        for (int kind : new int[] {0, 1, 3, 4, 5, 6, 8, 15}) {
            withData("WRITE of kind " + kind, kind).code(write, 3).faults(13, 0).lies(603, 53);
        }
        Rig.level0("WRITE behind the memory").describe(8, 639, 10, 2, 3, true).force(Rig.DS, 32).set(Rig.B, 9)
            .code(write, 1, write, 0).goes().lies(639, 0).goes().lies(639, 9).lies(0, 0);
    }

    private static void pushesAndPops() {
        int push = Rig.op(11, 0, 0);
        int pop = Rig.op(12, 1, 0);
        Rig.level0("PUSH").set(Rig.A, 9).code(push).goes().state(Rig.SP, 29).lies(Rig.STACK0 + 28, 0, 9, 0);
        Rig.level0("PUSH SP").code(Rig.op(11, 4, 0)).goes().state(Rig.SP, 29).lies(Rig.STACK0 + 29, 30);
        Rig.level0("PUSH at the limit").set(Rig.SP, 41).set(Rig.A, 9).code(push).goes().lies(Rig.STACK0 + 40, 9);
        Rig.level0("POP").memory(Rig.STACK0 + 30, 9).code(pop).goes().state(Rig.SP, 31).state(Rig.B, 9);
        Rig.level0("POP SP").memory(Rig.STACK0 + 30, 9).code(Rig.op(12, 4, 0)).goes().state(Rig.SP, 9);
        Rig.level0("POP at the limit").set(Rig.SP, 40).memory(Rig.STACK0 + 40, 9).code(pop).goes()
            .state(Rig.B, 9).state(Rig.SP, 41);
        Rig.level0("SP goes round").describe(8, 600, 65535, 2, 0, true).force(Rig.SS, 32).set(Rig.SP, 0)
            .memory(599, 8).set(Rig.A, 9).code(push, pop).goes().state(Rig.SP, 65535).lies(599, 9)
            .goes().state(Rig.SP, 0).state(Rig.B, 9);
        Rig.level3("PUSH above SS").set(Rig.SP, 42).code(push).faults(12, 0);
        Rig.level3("PUSH at 0").set(Rig.SP, 0).code(push).faults(12, 0);
        Rig.level3("POP above SS").set(Rig.SP, 41).code(pop).faults(12, 0);
        Rig.level3("PUSH without SS").force(Rig.SS, 0).code(push).faults(13, 0);
        Rig.level3("POP without SS").force(Rig.SS, 0).code(pop).faults(13, 0);
        Rig.level3("PUSH to data").describe(8, 600, 30, 1, 3, true).force(Rig.SS, 35).code(push).faults(13, 0);
        Rig.level3("POP of data").describe(8, 600, 30, 1, 3, true).force(Rig.SS, 35).memory(630, 4).code(pop).goes()
            .state(Rig.B, 4);
    }

    private static void tells() {
        int[] want = {4, 30, 0, 8, 20};
        for (int q = 0; q <= 4; q++) {
            Rig.level0("TELL " + q).force(Rig.DS, 30).set(Rig.A, 99).code(Rig.op(14, 0, q)).goes().state(Rig.A, want[q]);
        }
    }

    private static void adjusts() {
        for (int own = 0; own < 4; own++) {
            for (int wish = 0; wish < 4; wish++) {
                for (int before : new int[] {0, 7}) {
                    int z = own < wish ? Rig.Z : 0;
                    Rig.level0("ADJUST " + own + " by " + wish).set(Rig.A, 65532 + own).set(Rig.B, 44 + wish)
                        .set(Rig.FLAGS, before).code(Rig.op(21, 0, 1)).goes()
                        .state(Rig.A, 65532 + Math.max(own, wish)).state(Rig.B, 44 + wish)
                        .state(Rig.FLAGS, (before & 6) + z);
                }
            }
        }
    }
}
