/** Promise 5. */
public final class SetTest {
    public static void main(String[] args) {
        LevelMachine x = new LevelMachine();
        for (int r = 0; r <= 6; r++) {
            int most = r == 6 ? 7 : 65535;
            due(x, r, most, true, most);
            due(x, r, most + 1, false, most);
            due(x, r, -1, false, most);
            due(x, r, Integer.MIN_VALUE, false, most);
            due(x, r, 0, true, 0);
            due(x, r, r + 1, true, r + 1);
        }
        for (int r : new int[] {-1, 7, 8, 11, Integer.MIN_VALUE, Integer.MAX_VALUE}) {
            Rig.due("set(" + r + ", 0)", x.set(r, 0), false);
        }
        for (int r = 0; r <= 6; r++) {
            Rig.due("state(" + r + ")", x.state(r), r + 1);
        }
        Rig.finish();
    }

    private static void due(LevelMachine x, int r, int v, boolean taken, int then) {
        Rig.due("set(" + r + ", " + v + ")", x.set(r, v), taken);
        Rig.due("state(" + r + ")", x.state(r), then);
    }
}
