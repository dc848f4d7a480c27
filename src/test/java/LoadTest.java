/** Promise 7: LOAD and TASK. */
public final class LoadTest {
    public static void main(String[] args) {
        data();
        stack();
        task();
        Rig.finish();
    }

    private static Rig load(int level, int q, int s, int kind, int rank, boolean there) {
        String name = "LOAD " + q + " from " + s + " at " + level + ", kind " + kind + ", rank " + rank;
        Rig rig = level == 0 ? Rig.level0(name) : Rig.level3(name);
        return rig.describe(8, 600, 10, kind, rank, there).describe(31, 600, 10, kind, rank, there)
            .force(Rig.DS, 28).force(Rig.ES, 28).set(Rig.A, s).code(Rig.op(13, 0, q));
    }

    private static void data() {
        for (int q = Rig.DS; q <= Rig.ES; q++) {
            for (int s = 0; s < 4; s++) {
                load(3, q, s, 2, 3, true).goes().holds(q, 0, 0, 0, 0, 0).state(Rig.A, s).holds(Rig.DS + Rig.ES - q, 28);
            }
            for (int kind = 0; kind <= 15; kind++) {
                boolean fine = kind == 1 || kind == 2 || kind == 4 || kind == 5;
                if (fine) {
                    load(0, q, 32, kind, 0, true).goes().holds(q, 32, 600, 10, kind, 0);
                    load(3, q, 35, kind, 3, true).goes().holds(q, 35, 600, 10, kind, 3);
                    load(3, q, 34, kind, 3, false).faults(11, 32).holds(q, 28);
                } else {
                    load(0, q, 33, kind, 3, true).faults(13, 32).holds(q, 28);
                    load(0, q, 33, kind, 3, false).faults(13, 32);
                }
            }
            load(0, q, 124, 1, 0, true).goes().holds(q, 124);
            load(0, q, 127, 1, 3, true).goes().holds(q, 127);
            load(0, q, 128, 1, 3, true).describe(32, 600, 10, 1, 3, true).faults(13, 128);
            load(0, q, 4, 1, 0, true).goes().holds(q, 4, 200, 60, 4, 0);
            load(0, q, 129, 1, 3, true).faults(13, 128);
            load(0, q, 65535, 1, 3, true).faults(13, 65532);
            load(0, q, 33, 1, 0, true).faults(13, 32);
            load(0, q, 33, 1, 1, true).goes().holds(q, 33);
            load(0, q, 35, 2, 2, false).faults(13, 32);
            load(3, q, 32, 2, 2, true).faults(13, 32);
            load(3, q, 32, 4, 3, true).goes().holds(q, 32);
            load(3, q, 35, 5, 0, true).goes().holds(q, 35, 600, 10, 5, 0);
        }
    }

    private static void stack() {
        for (int s = 0; s < 4; s++) {
            load(0, Rig.SS, s, 2, 0, true).faults(13, 0);
        }
        load(0, Rig.SS, 32, 2, 0, true).goes().holds(Rig.SS, 32, 600, 10, 2, 0);
        load(3, Rig.SS, 35, 2, 3, true).goes().holds(Rig.SS, 35, 600, 10, 2, 3);
        load(3, Rig.SS, 34, 2, 3, true).faults(13, 32);
        load(3, Rig.SS, 35, 2, 2, true).faults(13, 32);
        load(0, Rig.SS, 32, 2, 1, true).faults(13, 32);
        load(0, Rig.SS, 33, 2, 0, true).faults(13, 32);
        load(0, Rig.SS, 128, 2, 0, true).faults(13, 128);
        load(0, Rig.SS, 32, 2, 0, false).faults(12, 32);
        load(3, Rig.SS, 35, 2, 3, false).faults(12, 32);
        for (int kind = 0; kind <= 15; kind++) {
            if (kind != 2) {
                load(3, Rig.SS, 35, kind, 3, false).faults(13, 32);
            }
        }
    }

    private static Rig task(int level, int s, int kind, boolean there) {
        String name = "TASK from " + s + " at " + level + ", kind " + kind;
        Rig rig = level == 0 ? Rig.level0(name) : Rig.level3(name);
        return rig.describe(8, 600, 10, kind, 2, there).memory(35, 9).set(Rig.A, s).code(Rig.op(20, 0, 7));
    }

    private static void task() {
        task(0, 34, 7, true).goes().holds(Rig.TR, 34, 600, 10, 8, 2).lies(34, 8 + 32 + 64, 9).lies(22, 72);
        task(0, 34, 7, true).memory(34, 65527).goes().lies(34, 65528).holds(Rig.TR, 34, 600, 10, 8, 3);
        task(0, 34, 7, false).faults(11, 32).holds(Rig.TR, 20).lies(34, 7 + 32);
        task(0, 2, 7, true).faults(13, 0);
        task(0, 130, 7, true).faults(13, 128);
        for (int kind = 0; kind <= 15; kind++) {
            if (kind != 7) {
                task(0, 33, kind, false).faults(13, 32).holds(Rig.TR, 20);
            }
        }
        task(3, 35, 7, true).faults(13, 0).holds(Rig.TR, 20).lies(34, 7 + 32 + 64);
        task(3, 35, 6, true).faults(13, 0);
    }
}
