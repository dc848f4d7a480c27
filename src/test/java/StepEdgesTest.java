/** Promises 7 and 8: n, what is refused, stopping and being down before n, and waking. */
public final class StepEdgesTest {
    private static final int MOVE = Rig.op(2, 0, 0);
    private static final int STOP = 0;
    private static final int BAD = 65535;

    public static void main(String[] args) {
        countsInstructions();
        countsFaults();
        stopsBefore();
        isDownBefore();
        doubleFaultCounts();
        refuses();
        wakes();
        Rig.finish();
    }

    private static void countsInstructions() {
        Rig.sentence("Does n instructions, or delivers faults instead, unless it stops or is down before:"
            + " how many of the two");
        for (int n = 0; n <= 4; n++) {
            Rig rig = Rig.level0("step(" + n + ")").code(MOVE, MOVE, MOVE, MOVE, MOVE);
            Rig.due("step(" + n + ")", rig.x.step(n), n);
            rig.state(Rig.IP, n).state(Rig.HALT, 0).state(Rig.FAULTS, 0);
        }
        Rig rig = Rig.level0("step(0) before a fault").code(BAD);
        Rig.due("step(0) before a fault", rig.x.step(0), 0);
        rig.state(Rig.IP, 0).state(Rig.FAULTS, 0).state(Rig.HALT, 0);
        rig = Rig.level0("step(0) before STOP").code(STOP);
        Rig.due("step(0) before STOP", rig.x.step(0), 0);
        rig.state(Rig.IP, 0).state(Rig.HALT, 0);
    }

    private static void countsFaults() {
        // BAD leads to offset 46, where an instruction and BAD again are: each delivery counts one.
        Rig rig = Rig.level0("faults and instructions").code(MOVE, BAD).memory(Rig.CODE0 + 46, MOVE, BAD);
        Rig.due("step(1)", rig.x.step(1), 1);
        Rig.due("step(4)", rig.x.step(4), 4);
        rig.state(Rig.FAULTS, 2).state(Rig.IP, 47).state(Rig.SP, 22).state(Rig.HALT, 0);
        rig = Rig.level0("faults alone").code(BAD).memory(Rig.CODE0 + 46, BAD);
        Rig.due("step(4)", rig.x.step(4), 4);
        rig.state(Rig.FAULTS, 4).state(Rig.IP, 46).state(Rig.SP, 14);
    }

    private static void stopsBefore() {
        for (int place = 0; place < 4; place++) {
            for (int n = 0; n <= 4; n++) {
                Rig rig = Rig.level0("STOP at " + place).code(MOVE, MOVE, MOVE, MOVE, MOVE).memory(Rig.CODE0 + place, STOP);
                boolean reached = n > place;
                Rig.due("step(" + n + ") with STOP at " + place, rig.x.step(n), reached ? place + 1 : n);
                rig.state(Rig.HALT, reached ? 1 : 0).state(Rig.IP, reached ? place + 1 : n);
            }
        }
        Rig rig = Rig.level0("after STOP").code(STOP, MOVE).goes();
        for (int n = 0; n <= 4; n++) {
            Rig.due("step(" + n + ") when it stops", rig.x.step(n), 0);
            rig.state(Rig.IP, 1).state(Rig.HALT, 1);
        }
        // A fault is delivered, and what takes it stops.
        rig = Rig.level0("STOP behind a fault").code(BAD).memory(Rig.CODE0 + 46, STOP);
        Rig.due("step(4)", rig.x.step(4), 2);
        rig.state(Rig.HALT, 1).state(Rig.IP, 47).state(Rig.FAULTS, 1);
    }

    private static void isDownBefore() {
        Rig.sentence("(a fault because of which it is down is not delivered)");
        for (int place = 0; place < 4; place++) {
            for (int n = 0; n <= 4; n++) {
                Rig rig = Rig.level0("down at " + place).withoutVectors().code(MOVE, MOVE, MOVE, MOVE)
                    .memory(Rig.CODE0 + place, BAD);
                boolean reached = n > place;
                Rig.due("step(" + n + ") with a fault at " + place, rig.x.step(n), reached ? place : n);
                rig.state(Rig.HALT, reached ? 2 : 0).state(Rig.IP, reached ? place : n).state(Rig.FAULTS, reached ? 2 : 0);
            }
        }
        Rig rig = Rig.level0("when it is down").withoutVectors().code(BAD).goesDown();
        for (int n = 0; n <= 4; n++) {
            Rig.due("step(" + n + ") when it is down", rig.x.step(n), 0);
            rig.state(Rig.IP, 0).state(Rig.HALT, 2).state(Rig.FAULTS, 2);
        }
        // One fault is delivered; behind it there is another that is not.
        rig = Rig.level0("down behind a fault").withoutVectors().describe(38, 4, 46, 10, 0, true).code(BAD)
            .memory(Rig.CODE0 + 46, Rig.op(13, 0, 3));
        Rig.due("step(4)", rig.x.step(4), 1);
        rig.state(Rig.HALT, 2).state(Rig.IP, 46).state(Rig.FAULTS, 3).state(Rig.SP, 26);
        Rig.due("step(1) of a new object", new LevelMachine().step(1), 0);
        Rig.due("step(4) of a new object", new LevelMachine().step(4), 0);
    }

    private static void doubleFaultCounts() {
        Rig.sentence("how many of the two (a fault because of which it is down is not delivered)");
        Rig rig = Rig.level0("fault 8 is delivered").describe(38, 0, 0, 0, 0, false).code(MOVE, BAD)
            .memory(Rig.CODE0 + 48, MOVE, STOP);
        Rig.due("step(2)", rig.x.step(2), 2);
        rig.state(Rig.IP, 48).state(Rig.FAULTS, 2).state(Rig.HALT, 0);
        Rig.due("step(4)", rig.x.step(4), 2);
        rig.state(Rig.HALT, 1);
    }

    private static void refuses() {
        Rig.sentence("Refused (-1) when n is not 0 .. 4.");
        Rig running = Rig.level0("refused when it runs").code(MOVE);
        Rig stopped = Rig.level0("refused when it stops").code(STOP).goes();
        Rig down = Rig.level0("refused when it is down").withoutVectors().code(BAD).goesDown();
        for (int n : new int[] {-1, 5, 6, Integer.MIN_VALUE, Integer.MAX_VALUE}) {
            Rig.due("step(" + n + ") when it runs", running.x.step(n), -1);
            running.state(Rig.IP, 0).state(Rig.HALT, 0);
            Rig.due("step(" + n + ") when it stops", stopped.x.step(n), -1);
            stopped.state(Rig.IP, 1).state(Rig.HALT, 1);
            Rig.due("step(" + n + ") when it is down", down.x.step(n), -1);
            down.state(Rig.HALT, 2).state(Rig.FAULTS, 2);
        }
    }

    private static void wakes() {
        Rig.sentence("It neither stops nor is down any more. Answers whether it did.");
        Rig rig = Rig.level0("did neither").code(MOVE, STOP, MOVE);
        Rig.due("wake() of a new object", new LevelMachine().wake(), false);
        Rig.due("wake() when it runs", rig.x.wake(), false);
        rig.goes();
        Rig.due("wake() when it runs", rig.x.wake(), false);
        rig.state(Rig.IP, 1).goes().state(Rig.HALT, 1);
        Rig.due("wake() after a stop", rig.x.wake(), true);
        rig.state(Rig.HALT, 0).state(Rig.IP, 2).state(Rig.SP, 30).holds(Rig.CS, 4);
        Rig.due("wake() again", rig.x.wake(), false);
        rig.goes().state(Rig.IP, 3);

        rig = Rig.level0("was down").withoutVectors().code(BAD).goesDown();
        Rig.due("wake() after being down", rig.x.wake(), true);
        rig.state(Rig.HALT, 0).state(Rig.IP, 0).state(Rig.NUMBER, 8).state(Rig.FAULTS, 2);
        Rig.due("wake() again", rig.x.wake(), false);
        rig.goesDown().state(Rig.FAULTS, 4);
        Rig.due("wake() after being down again", rig.x.wake(), true);
        rig.code(MOVE);
        Rig.due("step(1)", rig.x.step(1), 1);
        rig.state(Rig.IP, 1).state(Rig.HALT, 0);
    }
}
