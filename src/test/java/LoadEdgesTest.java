/** Terms: LOADING and TASK, for every level, wish, kind and rank; and selectors that are NONE or WRONG. */
public final class LoadEdgesTest {
    private static final int[] NONES = {0, 1, 2, 3};
    private static final int[] WRONGS = {128, 129, 131, 132, 160, 191, 192, 256 + 32, 32768, 65532, 65535};

    public static void main(String[] args) {
        dataOfNone();
        dataOfWrong();
        dataOfEveryKind();
        dataNotThere();
        stackOfNone();
        stackOfWrong();
        stackOfEveryKind();
        everyRegister();
        leastAndGreatest();
        tasks();
        tasksRefused();
        tasksAtOtherLevels();
        Rig.finish();
    }

    /** LOAD of segment q from selector s at a level, the descriptors 8 and 31 being alike. */
    private static Rig load(int level, int q, int s, int kind, int rank, boolean there) {
        return Rig.at(level, "LOAD " + q + " from " + s + " at " + level + ", kind " + kind + ", rank " + rank)
            .describe(8, 590, 9, kind, rank, there).describe(31, 590, 9, kind, rank, there)
            .force(Rig.DS, 29).force(Rig.ES, 30).set(Rig.A, s).code(Rig.op(13, 0, q));
    }

    private static void dataOfNone() {
        Rig.sentence("LOADING a selector s (codes are s): DS, ES: NONE: the segment has none.");
        for (int level = 0; level <= 3; level++) {
            for (int q = Rig.DS; q <= Rig.ES; q++) {
                for (int s : NONES) {
                    load(level, q, s, 2, 3, true).describe(0, 590, 9, 2, 3, true).goes().holds(q, 0, 0, 0, 0, 0)
                        .holds(Rig.DS + Rig.ES - q, q == Rig.DS ? 30 : 29).state(Rig.A, s);
                }
            }
        }
    }

    private static void dataOfWrong() {
        Rig.sentence("13 if WRONG, or the kind is not 1, 2, 4, 5, or it is not 5 and its rank is less than the level"
            + " or than the wish; 11 if not there.");
        for (int q = Rig.DS; q <= Rig.ES; q++) {
            int segment = q;
            for (int s : WRONGS) {
                // The word that a descriptor s / 4 would have there is good.
                Rig.faulty(13, s / 4 * 4, () -> load(0, segment, s, 2, 3, true).describe(33, 590, 9, 2, 3, true)
                    .describe(47, 590, 9, 2, 3, true).describe(39, 590, 9, 2, 3, true).memory(194, 2 + 48 + 64));
            }
        }
    }

    private static void dataOfEveryKind() {
        for (int kind = 0; kind <= 15; kind++) {
            for (int level = 0; level <= 3; level++) {
                for (int wish = 0; wish <= 3; wish++) {
                    for (int rank = 0; rank <= 3; rank++) {
                        boolean right = kind == 1 || kind == 2 || kind == 4 || kind == 5;
                        boolean fine = right && (kind == 5 || rank >= level && rank >= wish);
                        dataOf(fine, level, 32 + wish, kind, rank);
                    }
                }
            }
        }
    }

    private static void dataOf(boolean fine, int level, int s, int kind, int rank) {
        for (int q = Rig.DS; q <= Rig.ES; q++) {
            if (fine) {
                load(level, q, s, kind, rank, true).goes().holds(q, s, 590, 9, kind, rank).state(Rig.IP, 1);
                load(level, q, s, kind, rank, false).faults(11, 32);
            } else {
                load(level, q, s, kind, rank, true).faults(13, 32).holds(q, q == Rig.DS ? 29 : 30);
                load(level, q, s, kind, rank, false).faults(13, 32);
            }
        }
    }

    private static void dataNotThere() {
        for (int kind : new int[] {1, 2, 4, 5}) {
            Rig.faulty(11, 32, () -> load(3, Rig.DS, 35, kind, 3, false));
            Rig.faulty(11, 124, () -> load(0, Rig.ES, 125, kind, 1, false));
        }
        Rig.faulty(13, 32, () -> load(3, Rig.DS, 35, 2, 2, false));
        Rig.faulty(13, 32, () -> load(0, Rig.ES, 33, 4, 0, true));
        Rig.faulty(13, 32, () -> load(0, Rig.ES, 32, 3, 0, true));
    }

    private static void stackOfNone() {
        Rig.sentence("SS: 13, 0 if NONE; 13 if WRONG, the wish is not the level, the kind is not 2,"
            + " or the rank is not the level; 12 if not there.");
        for (int level = 0; level <= 3; level++) {
            int its = level;
            for (int s : NONES) {
                Rig.faulty(13, 0, () -> load(its, Rig.SS, s, 2, its, true).describe(0, 590, 9, 2, its, true));
            }
        }
    }

    private static void stackOfWrong() {
        for (int s : WRONGS) {
            int level = s % 4;
            Rig.faulty(13, s / 4 * 4, () -> load(level, Rig.SS, s, 2, level, true).describe(33, 590, 9, 2, level, true)
                .describe(39, 590, 9, 2, level, true).describe(47, 590, 9, 2, level, true)
                .memory(194, 2 + 16 * level + 64));
        }
    }

    private static void stackOfEveryKind() {
        for (int kind = 0; kind <= 15; kind++) {
            for (int level = 0; level <= 3; level++) {
                for (int wish = 0; wish <= 3; wish++) {
                    for (int rank = 0; rank <= 3; rank++) {
                        stackOf(kind == 2 && wish == level && rank == level, level, 32 + wish, kind, rank);
                    }
                }
            }
        }
        Rig.faulty(12, 32, () -> load(3, Rig.SS, 35, 2, 3, false));
        Rig.faulty(12, 124, () -> load(0, Rig.SS, 124, 2, 0, false));
        Rig.faulty(13, 32, () -> load(3, Rig.SS, 34, 2, 3, false));
    }

    private static void stackOf(boolean fine, int level, int s, int kind, int rank) {
        if (fine) {
            load(level, Rig.SS, s, kind, rank, true).goes().holds(Rig.SS, s, 590, 9, 2, rank).state(Rig.SP, 30);
            load(level, Rig.SS, s, kind, rank, false).raises(12, 32);
        } else {
            load(level, Rig.SS, s, kind, rank, true).raises(13, 32);
            load(level, Rig.SS, s, kind, rank, false).raises(13, 32);
        }
    }

    private static void everyRegister() {
        Rig.sentence("13 LOAD: segment Q (1 .. 3) from selector R.");
        for (int q = Rig.DS; q <= Rig.SS; q++) {
            for (int r = 0; r <= 4; r++) {
                load(0, q, 128, 2, 0, true).set(r, 32).code(Rig.op(13, r, q)).goes().holds(q, 32, 590, 9, 2, 0)
                    .state(r, 32).holds(Rig.CS, 4).holds(Rig.TR, 20);
            }
        }
    }

    private static void leastAndGreatest() {
        Rig.sentence("A SELECTOR s is of descriptor s / 4, with a WISH, s modulo 4."
            + " It is NONE if s / 4 is 0; WRONG if it is above 31.");
        for (int wish = 0; wish <= 3; wish++) {
            load(0, Rig.DS, 4 + wish, 2, 3, true).describe(1, 590, 9, 2, 3, true).goes()
                .holds(Rig.DS, 4 + wish, 590, 9, 2, 3);
            load(0, Rig.DS, 124 + wish, 2, 3, true).goes().holds(Rig.DS, 124 + wish, 590, 9, 2, 3);
        }
        load(0, Rig.SS, 4, 2, 0, true).describe(1, 590, 9, 2, 0, true).goes().holds(Rig.SS, 4);
        load(3, Rig.SS, 127, 2, 3, true).goes().holds(Rig.SS, 127);
    }

    /** TASK from selector s. */
    private static Rig task(int level, int s, int kind, int rank, boolean there) {
        return load(level, Rig.DS, s, kind, rank, there).code(Rig.op(20, 0, 0));
    }

    private static void tasks() {
        Rig.sentence("20 TASK: TR from selector R; 13, 0 unless the level is 0; NONE 13, 0; WRONG, or its descriptor's kind"
            + " is not 7: 13, R; not there: 11, R; it becomes busy, then it is loaded.");
        for (int wish = 0; wish <= 3; wish++) {
            for (int rank = 0; rank <= 3; rank++) {
                task(0, 32 + wish, 7, rank, true).goes().holds(Rig.TR, 32 + wish, 590, 9, 8, rank)
                    .lies(32, 590, 9, 8 + 16 * rank + 64, 0).lies(22, 72);
            }
            task(0, 124 + wish, 7, 0, true).goes().holds(Rig.TR, 124 + wish);
            task(0, 4 + wish, 7, 0, true).describe(1, 590, 0, 7, 0, true).goes().holds(Rig.TR, 4 + wish, 590, 0, 8, 0);
        }
        // Only the kind changes, whatever else is in its word.
        task(0, 32, 7, 0, true).memory(34, 65527).goes().lies(34, 65528, 0).holds(Rig.TR, 32, 590, 9, 8, 3);
        task(0, 32, 7, 0, true).force(Rig.TR, 0).goes().holds(Rig.TR, 32, 590, 9, 8, 0);
    }

    private static void tasksRefused() {
        for (int s : NONES) {
            Rig.faulty(13, 0, () -> task(0, s, 7, 0, true).describe(0, 590, 9, 7, 0, true));
        }
        for (int s : WRONGS) {
            Rig.faulty(13, s / 4 * 4, () -> task(0, s, 7, 0, true).describe(33, 590, 9, 7, 0, true)
                .describe(39, 590, 9, 7, 0, true).describe(47, 590, 9, 7, 0, true).memory(194, 7 + 64));
        }
        for (int kind = 0; kind <= 15; kind++) {
            if (kind != 7) {
                int its = kind;
                Rig.faulty(13, 32, () -> task(0, 35, its, 3, true));
                Rig.faulty(13, 32, () -> task(0, 32, its, 3, false));
            }
        }
        Rig.faulty(11, 32, () -> task(0, 34, 7, 0, false));
    }

    private static void tasksAtOtherLevels() {
        for (int level = 1; level <= 3; level++) {
            int its = level;
            Rig.faulty(13, 0, () -> task(its, 35, 7, 3, true));
            Rig.faulty(13, 0, () -> task(its, 35, 7, 3, false));
            Rig.faulty(13, 0, () -> task(its, 35, 2, 3, true));
            Rig.faulty(13, 0, () -> task(its, 131, 7, 3, true));
        }
    }
}
