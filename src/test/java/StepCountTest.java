/** Promises 7, 8 and 9: how many were done, stopping, going down, waking, and what state tells of it. */
public final class StepCountTest {
    public static void main(String[] args) {
        counts();
        refuses();
        stops();
        goesDown();
        doubleFaultIsDelivered();
        faultsAreCounted();
        otherStates();
        Rig.finish();
    }

    private static void counts() {
        for (int n = 0; n <= 4; n++) {
            Rig rig = Rig.level0("counts " + n);
            for (int i = 0; i < 8; i++) {
                rig.x.poke(Rig.CODE0 + i, Rig.op(2, 0, 0));
            }
            Rig.due("step(" + n + ")", rig.x.step(n), n);
            rig.state(Rig.IP, n).state(Rig.HALT, 0);
        }
    }

    private static void refuses() {
        Rig rig = Rig.level0("refuses").code(Rig.op(2, 0, 0));
        for (int n : new int[] {-1, 5, Integer.MIN_VALUE, Integer.MAX_VALUE}) {
            Rig.due("step(" + n + ")", rig.x.step(n), -1);
            rig.state(Rig.IP, 0);
        }
    }

    private static void stops() {
        Rig rig = Rig.level0("stops").code(Rig.op(1, 0, 0), 7, Rig.op(0, 0, 0), Rig.op(1, 0, 0), 8);
        Rig.due("step(4)", rig.x.step(4), 2);
        rig.state(Rig.HALT, 1).state(Rig.IP, 3).state(Rig.A, 7);
        Rig.due("step(1) when it stops", rig.x.step(1), 0);
        Rig.due("step(5) when it stops", rig.x.step(5), -1);
        Rig.due("wake()", rig.x.wake(), true);
        rig.state(Rig.HALT, 0).state(Rig.IP, 3);
        Rig.due("wake() again", rig.x.wake(), false);
        Rig.due("step(1) after it", rig.x.step(1), 1);
        rig.state(Rig.A, 8).state(Rig.FAULTS, 0);
        Rig.level3("stop at level 3").code(Rig.op(0, 0, 0)).faults(13, 0).state(Rig.HALT, 0);
    }

    private static void goesDown() {
        Rig rig = Rig.level0("goes down").code(Rig.op(1, 0, 0), 7, Rig.op(30, 0, 0));
        rig.describe(32 + 6, 0, 0, 0, 0, false).describe(32 + 8, 0, 0, 0, 0, false);
        Rig.due("step(4)", rig.x.step(4), 1);
        rig.state(Rig.HALT, 2).state(Rig.NUMBER, 8).state(Rig.CODE, 0).state(Rig.FAULTS, 2);
        rig.state(Rig.IP, 2).state(Rig.SP, 30).state(Rig.A, 7).holds(Rig.SS, 8).lies(Rig.STACK0 + 26, 0, 0, 0, 0);
        Rig.due("step(1) when it is down", rig.x.step(1), 0);
        rig.state(Rig.FAULTS, 2);
        Rig.due("wake()", rig.x.wake(), true);
        rig.state(Rig.HALT, 0);
        Rig.due("step(1) after it", rig.x.step(1), 0);
        rig.state(Rig.HALT, 2).state(Rig.FAULTS, 4);

        // Both deliveries push three words, and have no room for the code.
        rig = Rig.level0("goes down late").code(Rig.op(30, 0, 0)).set(Rig.SP, 3).set(Rig.FLAGS, 5);
        Rig.due("step(1)", rig.x.step(1), 0);
        rig.state(Rig.HALT, 2).state(Rig.SP, 3).state(Rig.IP, 0).state(Rig.FLAGS, 5).lies(Rig.STACK0, 0, 0, 0);

        LevelMachine x = new LevelMachine();
        Rig.due("step(1) of a new object", x.step(1), 0);
        Rig.due("state(8)", x.state(8), 2);
        Rig.due("state(9)", x.state(9), 8);
        Rig.due("state(11)", x.state(11), 2);
    }

    private static void doubleFaultIsDelivered() {
        Rig rig = Rig.level3("double fault").code(Rig.op(13, 0, 1)).set(Rig.A, 1000);
        rig.describe(32 + 13, 4, 53, 10, 0, false);
        Rig.due("step(1)", rig.x.step(1), 1);
        rig.state(Rig.NUMBER, 8).state(Rig.CODE, 0).state(Rig.FAULTS, 2).state(Rig.IP, 48).state(Rig.LEVEL, 0);
        // old SS, old SP, FLAGS, CS, IP and the code, the last one at SP
        rig.state(Rig.SP, 29).lies(Rig.STACK0 + 29, 0, 0, 15, 0, 30, 19);

        rig = Rig.level0("the code can't be pushed").code(Rig.op(30, 0, 0)).set(Rig.SP, 3);
        rig.describe(9, 600, 17, 7, 0, true).describe(32 + 8, 36, 0, 9, 0, true);
        rig.memory(607, 0, 0, 1, 2, 3, 4, 30, 4, 0, 0, 8);
        Rig.due("step(1)", rig.x.step(1), 1);
        rig.state(Rig.NUMBER, 8).state(Rig.FAULTS, 2).holds(Rig.TR, 36, 600, 17, 8, 0);
        rig.lies(Rig.STACK0, 0, 0, 0).lies(Rig.TASK5 + 7, 0).lies(Rig.TASK5 + 13, 3);
        rig.state(Rig.SP, 29).lies(Rig.STACK0 + 29, 0).lies(600, 20);
    }

    private static void faultsAreCounted() {
        Rig rig = Rig.level0("faults are counted").code(Rig.op(22, 0, 0));
        rig.faults(6, 0).set(Rig.IP, 61).faults(13, 0).set(Rig.IP, 1).set(Rig.A, 500);
        rig.memory(Rig.CODE0 + 1, Rig.op(13, 0, 2)).faults(13, 500);
        rig.state(Rig.FAULTS, 3).set(Rig.IP, 2).memory(Rig.CODE0 + 2, Rig.op(2, 0, 0));
        Rig.due("step(1)", rig.x.step(1), 1);
        rig.state(Rig.FAULTS, 3).state(Rig.NUMBER, 13).state(Rig.CODE, 500);
    }

    private static void otherStates() {
        LevelMachine x = new LevelMachine();
        for (int what : new int[] {-1, 12, 13, Integer.MIN_VALUE, Integer.MAX_VALUE}) {
            Rig.due("state(" + what + ")", x.state(what), -1);
        }
        x.describe(1, 0, 0, 1, 0, true);
        for (int level = 0; level < 4; level++) {
            x.force(0, 4 + level);
            Rig.due("state(7)", x.state(7), level);
        }
        x.step(1);
        Rig.due("state(8) before wake", x.state(8), 2);
        x.wake();
        Rig.due("state(8) after wake", x.state(8), 0);
        Rig.due("state(9) after wake", x.state(9), 8);
    }
}
