/** Promises 2 and 3. */
public final class PokePeekTest {
    public static void main(String[] args) {
        LevelMachine x = new LevelMachine();
        due(x, 0, 1, true);
        due(x, 0, 65535, true);
        due(x, 0, 0, true);
        due(x, 639, 65535, true);
        due(x, 300, 1234, true);
        due(x, 640, 1, false);
        due(x, 65536, 1, false);
        due(x, -1, 1, false);
        due(x, Integer.MIN_VALUE, 1, false);
        due(x, Integer.MAX_VALUE, 1, false);
        for (int w : new int[] {65536, -1, Integer.MIN_VALUE, Integer.MAX_VALUE}) {
            Rig.due("poke(300, " + w + ")", x.poke(300, w), false);
            Rig.due("peek(300)", x.peek(300), 1234);
        }
        Rig.due("peek(301)", x.peek(301), 0);
        Rig.due("peek(299)", x.peek(299), 0);
        Rig.finish();
    }

    private static void due(LevelMachine x, int a, int w, boolean want) {
        Rig.due("poke(" + a + ", " + w + ")", x.poke(a, w), want);
        Rig.due("peek(" + a + ")", x.peek(a), want ? w : -1);
    }
}
