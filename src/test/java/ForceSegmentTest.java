/** Promises 6 and 10. */
public final class ForceSegmentTest {
    public static void main(String[] args) {
        takesAllKinds();
        hasNone();
        keepsWhatWasLoaded();
        refuses();
        Rig.finish();
    }

    private static void takesAllKinds() {
        LevelMachine x = new LevelMachine();
        for (int kind = 1; kind <= 15; kind++) {
            x = new LevelMachine();
            for (int q = 0; q < 5; q++) {
                x.describe(31, 600 + kind, 65535 - kind, kind, 2, false);
                Rig.due("force(" + q + ", 125)", x.force(q, 125), true);
                holds(x, q, 125, 600 + kind, 65535 - kind, kind, 2);
                Rig.due("its descriptor", x.peek(126), kind + 32);
            }
        }
        Rig.due("level", x.state(7), 1);
        Rig.due("force(0, 127)", x.force(0, 127), true);
        Rig.due("level", x.state(7), 3);
    }

    private static void hasNone() {
        LevelMachine x = new LevelMachine();
        x.describe(0, 5, 6, 2, 3, true);
        x.describe(1, 5, 6, 2, 3, true);
        x.describe(2, 5, 6, 0, 3, true);
        for (int q = 0; q < 5; q++) {
            for (int s : new int[] {0, 1, 2, 3, 8, 11}) {
                x.force(q, 7);
                holds(x, q, 7, 5, 6, 2, 3);
                Rig.due("force(" + q + ", " + s + ")", x.force(q, s), true);
                holds(x, q, 0, 0, 0, 0, 0);
            }
        }
        Rig.due("level without CS", x.state(7), 0);
    }

    private static void keepsWhatWasLoaded() {
        LevelMachine x = new LevelMachine();
        x.describe(1, 5, 6, 2, 3, true);
        x.force(1, 5);
        x.describe(1, 9, 9, 1, 1, false);
        holds(x, 1, 5, 5, 6, 2, 3);
        x.force(1, 5);
        holds(x, 1, 5, 9, 9, 1, 1);
        holds(x, 0, 0, 0, 0, 0, 0);
        holds(x, 2, 0, 0, 0, 0, 0);
    }

    private static void refuses() {
        LevelMachine x = new LevelMachine();
        x.describe(1, 5, 6, 2, 3, true);
        x.force(1, 4);
        for (int q : new int[] {-1, 5, 6, Integer.MIN_VALUE, Integer.MAX_VALUE}) {
            Rig.due("force(" + q + ", 4)", x.force(q, 4), false);
            for (int what = -1; what <= 5; what++) {
                Rig.due("segment(" + q + ", " + what + ")", x.segment(q, what), -1);
            }
        }
        for (int s : new int[] {-1, 128, 132, 65535, Integer.MIN_VALUE, Integer.MAX_VALUE}) {
            Rig.due("force(1, " + s + ")", x.force(1, s), false);
        }
        holds(x, 1, 4, 5, 6, 2, 3);
        for (int what : new int[] {-1, 5, Integer.MIN_VALUE, Integer.MAX_VALUE}) {
            Rig.due("segment(1, " + what + ")", x.segment(1, what), -1);
        }
    }

    private static void holds(LevelMachine x, int q, int... want) {
        for (int what = 0; what < 5; what++) {
            Rig.due("segment(" + q + ", " + what + ")", x.segment(q, what), want[what]);
        }
    }
}
