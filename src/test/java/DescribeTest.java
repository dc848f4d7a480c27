/** Promise 4. */
public final class DescribeTest {
    public static void main(String[] args) {
        takes();
        refuses();
        Rig.finish();
    }

    private static void takes() {
        LevelMachine x = new LevelMachine();
        x.poke(3, 77);
        x.poke(2, 65535);
        Rig.due("describe 0", x.describe(0, 65535, 65535, 15, 3, true), true);
        words(x, 0, 65535, 65535, 15 + 48 + 64, 77);
        Rig.due("describe 0 again", x.describe(0, 0, 0, 0, 0, false), true);
        words(x, 0, 0, 0, 0, 77);
        Rig.due("describe 47", x.describe(47, 1, 2, 3, 1, false), true);
        words(x, 47, 1, 2, 19, 0);
        Rig.due("describe 9", x.describe(9, 100, 50, 2, 2, true), true);
        words(x, 9, 100, 50, 98, 0);
        Rig.due("word before 9", x.peek(35), 0);
        Rig.due("word behind 9", x.peek(40), 0);
    }

    private static void refuses() {
        LevelMachine x = new LevelMachine();
        Rig.due("k 48", x.describe(48, 0, 0, 1, 0, true), false);
        Rig.due("k -1", x.describe(-1, 0, 0, 1, 0, true), false);
        Rig.due("k far", x.describe(Integer.MIN_VALUE, 0, 0, 1, 0, true), false);
        Rig.due("k round", x.describe(1 << 30, 0, 0, 1, 0, true), false);
        Rig.due("first 65536", x.describe(1, 65536, 0, 1, 0, true), false);
        Rig.due("first -1", x.describe(1, -1, 0, 1, 0, true), false);
        Rig.due("second 65536", x.describe(1, 0, 65536, 1, 0, true), false);
        Rig.due("second -1", x.describe(1, 0, -1, 1, 0, true), false);
        Rig.due("kind 16", x.describe(1, 0, 0, 16, 0, true), false);
        Rig.due("kind -1", x.describe(1, 0, 0, -1, 0, true), false);
        Rig.due("rank 4", x.describe(1, 0, 0, 1, 4, true), false);
        Rig.due("rank -1", x.describe(1, 0, 0, 1, -1, true), false);
        for (int a = 0; a < 4 * 48 + 4; a++) {
            Rig.due("peek(" + a + ")", x.peek(a), 0);
        }
    }

    private static void words(LevelMachine x, int k, int... want) {
        for (int i = 0; i < 4; i++) {
            Rig.due("word " + i + " of descriptor " + k, x.peek(4 * k + i), want[i]);
        }
    }
}
