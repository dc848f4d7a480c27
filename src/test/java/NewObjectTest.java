/** Promise 1. */
public final class NewObjectTest {
    public static void main(String[] args) {
        LevelMachine x = new LevelMachine();
        LevelMachine y = new LevelMachine();
        // Two of them, as an object is good for 512 calls.
        for (int a = 0; a < 640; a++) {
            Rig.due("peek(" + a + ")", a < 320 ? x.peek(a) : y.peek(a), 0);
        }
        for (int what = 0; what <= 11; what++) {
            Rig.due("state(" + what + ")", x.state(what), 0);
        }
        for (int q = 0; q < 5; q++) {
            for (int what = 0; what < 5; what++) {
                Rig.due("segment(" + q + ", " + what + ")", x.segment(q, what), 0);
            }
        }
        Rig.due("wake()", x.wake(), false);
        Rig.due("NONE", LevelMachine.NONE, -1);
        objectsAreApart();
        Rig.finish();
    }

    private static void objectsAreApart() {
        LevelMachine one = new LevelMachine();
        LevelMachine other = new LevelMachine();
        one.poke(5, 9);
        one.set(0, 9);
        one.describe(1, 1, 1, 1, 1, true);
        one.force(1, 4);
        one.step(1);
        Rig.due("peek(5) of the other", other.peek(5), 0);
        Rig.due("state(0) of the other", other.state(0), 0);
        Rig.due("segment(1, 0) of the other", other.segment(1, 0), 0);
        Rig.due("state(8) of the other", other.state(8), 0);
    }
}
