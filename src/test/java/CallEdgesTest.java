/** Promises 1 to 6, 9 and 10: what is refused, and the least and the greatest of each argument that is not. */
public final class CallEdgesTest {
    private static final int LEAST = Integer.MIN_VALUE, MOST = Integer.MAX_VALUE;

    public static void main(String[] args) {
        newObject();
        pokes();
        pokesRefused();
        peeks();
        describes();
        describesRefused();
        sets();
        setsRefused();
        forces();
        forcesNone();
        forcesRefused();
        states();
        statesOfFaults();
        segments();
        callsWhenItDoesNotRun();
        Rig.finish();
    }

    private static void newObject() {
        Rig.sentence("Memory, registers and segments are 0 and none; it neither stops nor is down.");
        LevelMachine x = new LevelMachine();
        LevelMachine y = new LevelMachine();
        for (int a = 0; a < 320; a++) {
            Rig.due("peek(" + a + ")", x.peek(a), 0);
            Rig.due("peek(" + (a + 320) + ")", y.peek(a + 320), 0);
        }
        for (int what = 0; what <= 11; what++) {
            Rig.due("state(" + what + ")", x.state(what), 0);
        }
        for (int q = 0; q <= 4; q++) {
            for (int what = 0; what <= 4; what++) {
                Rig.due("segment(" + q + ", " + what + ")", x.segment(q, what), 0);
            }
        }
        Rig.due("wake()", x.wake(), false);
        Rig.due("step(0)", x.step(0), 0);
    }

    private static void pokes() {
        Rig.sentence("Word a of the memory becomes w: true; refused (false) when there is none or w is no word.");
        LevelMachine x = new LevelMachine();
        for (int a : new int[] {0, 1, 191, 192, 638, 639}) {
            for (int w : new int[] {1, 65535, 32768, 0, 65534}) {
                Rig.due("poke(" + a + ", " + w + ")", x.poke(a, w), true);
                Rig.due("peek(" + a + ")", x.peek(a), w);
            }
        }
        for (int a : new int[] {2, 190, 193, 637}) {
            Rig.due("its neighbour " + a, x.peek(a), 0);
        }
    }

    private static void pokesRefused() {
        LevelMachine x = new LevelMachine();
        for (int a : new int[] {-1, 640, 641, 65535, 65536, -640, LEAST, MOST}) {
            Rig.due("poke(" + a + ", 1)", x.poke(a, 1), false);
            Rig.due("peek(0)", x.peek(0), 0);
            Rig.due("peek(639)", x.peek(639), 0);
        }
        for (int w : new int[] {-1, 65536, 65537, LEAST, MOST}) {
            for (int a : new int[] {0, 300, 639}) {
                Rig.due("poke(" + a + ", " + w + ")", x.poke(a, w), false);
                Rig.due("peek(" + a + ")", x.peek(a), 0);
            }
            Rig.due("poke(640, " + w + ")", x.poke(640, w), false);
        }
    }

    private static void peeks() {
        Rig.sentence("Word a of the memory; NONE when there is none.");
        LevelMachine x = new LevelMachine();
        x.poke(0, 7);
        x.poke(639, 9);
        Rig.due("peek(0)", x.peek(0), 7);
        Rig.due("peek(639)", x.peek(639), 9);
        for (int a : new int[] {-1, 640, 65535, 65536, -640, LEAST, MOST}) {
            Rig.due("peek(" + a + ")", x.peek(a), -1);
        }
        Rig.due("NONE", LevelMachine.NONE, -1);
    }

    private static void describes() {
        Rig.sentence("Descriptor k gets these: kind 0 .. 15, rank 0 .. 3, whether it is there; FOURTH stays: true;"
            + " refused when there is no such descriptor or something is not as said.");
        for (int k : new int[] {0, 1, 31, 32, 47}) {
            LevelMachine x = new LevelMachine();
            described(x, k, 0, 0, 0, 0, false);
            described(x, k, 65535, 0, 0, 0, false);
            described(x, k, 0, 65535, 0, 0, false);
            described(x, k, 0, 0, 15, 0, false);
            described(x, k, 0, 0, 0, 3, false);
            described(x, k, 0, 0, 0, 0, true);
            described(x, k, 65535, 65535, 15, 3, true);
            described(x, k, 300, 40, 2, 1, true);
            Rig.due("the word behind", x.peek(4 * k + 4), 0);
            Rig.due("the word before", x.peek(4 * k - 1), k == 0 ? -1 : 0);
        }
    }

    /** The third and the fourth word are 65535 before. */
    private static void described(LevelMachine x, int k, int first, int second, int kind, int rank, boolean there) {
        x.poke(4 * k + 2, 65535);
        x.poke(4 * k + 3, 65535);
        String call = "describe(" + k + ", " + first + ", " + second + ", " + kind + ", " + rank + ", " + there + ")";
        Rig.due(call, x.describe(k, first, second, kind, rank, there), true);
        Rig.due(call + ": FIRST", x.peek(4 * k), first);
        Rig.due(call + ": SECOND", x.peek(4 * k + 1), second);
        Rig.due(call + ": the third word", x.peek(4 * k + 2), kind + 16 * rank + (there ? 64 : 0));
        Rig.due(call + ": FOURTH", x.peek(4 * k + 3), 65535);
    }

    private static void describesRefused() {
        for (int k : new int[] {-1, 48, 49, 160, 16384, 1 << 30, LEAST, MOST}) {
            notDescribed(k, 5, 5, 5, 1, true);
        }
        for (int w : new int[] {-1, 65536, LEAST, MOST}) {
            notDescribed(1, w, 5, 5, 1, true);
            notDescribed(1, 5, w, 5, 1, true);
        }
        for (int kind : new int[] {-1, 16, 17, LEAST, MOST}) {
            notDescribed(1, 5, 5, kind, 1, true);
        }
        for (int rank : new int[] {-1, 4, 5, LEAST, MOST}) {
            notDescribed(1, 5, 5, 5, rank, true);
            notDescribed(47, 5, 5, 5, rank, false);
        }
    }

    private static void notDescribed(int k, int first, int second, int kind, int rank, boolean there) {
        String call = "describe(" + k + ", " + first + ", " + second + ", " + kind + ", " + rank + ", " + there + ")";
        LevelMachine x = new LevelMachine();
        Rig.due(call, x.describe(k, first, second, kind, rank, there), false);
        for (int a = 0; a < 200; a++) {
            Rig.due(call + ": peek(" + a + ")", x.peek(a), 0);
        }
    }

    private static void sets() {
        Rig.sentence("Register r (0 .. 4; 5 IP, 6 FLAGS, 0 .. 7) becomes v: true;"
            + " refused when it is none of these or v is not as said.");
        LevelMachine x = new LevelMachine();
        for (int r = 0; r <= 6; r++) {
            int most = r == 6 ? 7 : 65535;
            for (int v : new int[] {most, 0, 1, most - 1, 6 - r}) {
                Rig.due("set(" + r + ", " + v + ")", x.set(r, v), true);
                Rig.due("state(" + r + ")", x.state(r), v);
            }
        }
        for (int r = 0; r <= 6; r++) {
            Rig.due("state(" + r + ")", x.state(r), 6 - r);
        }
    }

    private static void setsRefused() {
        LevelMachine x = new LevelMachine();
        for (int r = 0; r <= 6; r++) {
            x.set(r, r + 1);
        }
        for (int r : new int[] {-1, 7, 8, 11, LEAST, MOST}) {
            Rig.due("set(" + r + ", 0)", x.set(r, 0), false);
        }
        for (int r = 0; r <= 6; r++) {
            for (int v : new int[] {-1, 65536, LEAST, MOST}) {
                Rig.due("set(" + r + ", " + v + ")", x.set(r, v), false);
            }
        }
        for (int v : new int[] {8, 9, 65535}) {
            Rig.due("set(6, " + v + ")", x.set(6, v), false);
        }
        for (int r = 0; r <= 6; r++) {
            Rig.due("state(" + r + ")", x.state(r), r + 1);
        }
        Rig.due("state(7)", x.state(7), 0);
        Rig.due("state(8)", x.state(8), 0);
    }

    private static void forces() {
        Rig.sentence("Segment q (0 .. 4) is loaded with selector s, nothing being looked at (none if s / 4 is 0,"
            + " or the descriptor's kind is 0): true; refused when there is no such segment, or s is not 0 .. 127.");
        for (int q = 0; q <= 4; q++) {
            for (int kind = 1; kind <= 15; kind++) {
                forced(q, 4, kind, 0, false);
                forced(q, 7, kind, 3, true);
                forced(q, 124, kind, 3, false);
                forced(q, 127, kind, 0, true);
            }
        }
    }

    /** A descriptor that is or is not there, at the greatest base and limit; nothing but the segment changes. */
    private static void forced(int q, int s, int kind, int rank, boolean there) {
        LevelMachine x = new LevelMachine();
        x.describe(s / 4, 65535, 65534, kind, rank, there);
        String call = "force(" + q + ", " + s + ") of kind " + kind;
        Rig.due(call, x.force(q, s), true);
        loaded(call, x, q, s, 65535, 65534, kind, rank);
        Rig.due(call + ": its descriptor", x.peek(s / 4 * 4 + 2), kind + 16 * rank + (there ? 64 : 0));
        for (int other = 0; other <= 4; other++) {
            if (other != q) {
                loaded(call, x, other, 0, 0, 0, 0, 0);
            }
        }
    }

    private static void loaded(String call, LevelMachine x, int q, int... want) {
        for (int what = 0; what <= 4; what++) {
            Rig.due(call + ": segment(" + q + ", " + what + ")", x.segment(q, what), want[what]);
        }
    }

    private static void forcesNone() {
        for (int q = 0; q <= 4; q++) {
            for (int s : new int[] {0, 1, 2, 3, 8, 11, 127}) {
                LevelMachine x = new LevelMachine();
                x.describe(0, 5, 6, 2, 3, true);
                x.describe(1, 5, 6, 2, 3, true);
                x.describe(2, 5, 6, 0, 3, true);
                x.force(q, 7);
                loaded("force(" + q + ", 7)", x, q, 7, 5, 6, 2, 3);
                Rig.due("force(" + q + ", " + s + ")", x.force(q, s), true);
                loaded("force(" + q + ", " + s + ")", x, q, 0, 0, 0, 0, 0);
                Rig.due("the level", x.state(7), 0);
            }
        }
    }

    private static void forcesRefused() {
        LevelMachine x = new LevelMachine();
        for (int k = 0; k < 48; k++) {
            x.describe(k, 5, 6, 2, 3, true);
        }
        for (int q = 0; q <= 4; q++) {
            x.force(q, 4 + q);
            for (int s : new int[] {-1, 128, 129, 191, 65535, 65536 + 4, LEAST, MOST}) {
                Rig.due("force(" + q + ", " + s + ")", x.force(q, s), false);
                Rig.due("segment(" + q + ", 0)", x.segment(q, 0), 4 + q);
            }
            loaded("after refusals", x, q, 4 + q, 5, 6, 2, 3);
        }
        for (int q : new int[] {-1, 5, 6, LEAST, MOST}) {
            Rig.due("force(" + q + ", 4)", x.force(q, 4), false);
            Rig.due("force(" + q + ", 0)", x.force(q, 0), false);
        }
        for (int q = 0; q <= 4; q++) {
            loaded("after refusals", x, q, 4 + q, 5, 6, 2, 3);
        }
    }

    private static void states() {
        Rig.sentence("what = 0 .. 4 registers, 5 IP, 6 FLAGS, 7 the level, 8 whether it stops (1) or is down (2; else 0)");
        LevelMachine x = new LevelMachine();
        for (int r = 0; r <= 6; r++) {
            x.set(r, 7 - r);
        }
        for (int r = 0; r <= 6; r++) {
            Rig.due("state(" + r + ")", x.state(r), 7 - r);
        }
        x.describe(31, 0, 0, 1, 0, false);
        for (int level = 0; level <= 3; level++) {
            x.force(0, 124 + level);
            Rig.due("state(7)", x.state(7), level);
        }
        Rig.level0("stops").state(Rig.HALT, 0).code(0).goes().state(Rig.HALT, 1);
        Rig.level0("is down").withoutVectors().code(65535).goesDown().state(Rig.HALT, 2);

        Rig.sentence("NONE for another what.");
        for (int what : new int[] {-1, 12, 13, LEAST, MOST}) {
            Rig.due("state(" + what + ")", x.state(what), -1);
        }
    }

    private static void statesOfFaults() {
        Rig.sentence("9 the number of the latest fault of an instruction, or 8 if delivering that faulted (0 before any),"
            + " 10 its code, 11 how many such faults there were in all (of both sorts).");
        Rig.level0("before any").code(0).goes().state(Rig.NUMBER, 0).state(Rig.CODE, 0).state(Rig.FAULTS, 0);
        Rig rig = Rig.level0("some").set(Rig.A, 65535).code(Rig.op(13, 0, 1)).faults(13, 65532);
        rig.memory(Rig.CODE0 + 53, Rig.op(2, 0, 0), 65535).set(Rig.SP, 30);
        Rig.due("an instruction without a fault", rig.x.step(1), 1);
        rig.state(Rig.NUMBER, 13).state(Rig.CODE, 65532).state(Rig.FAULTS, 1);
        // Vector 6 can't be used from here on: fault 6 and fault 8 are two.
        rig.describe(38, 0, 0, 0, 0, false);
        Rig.due("fault 6, whose delivery faults", rig.x.step(1), 1);
        rig.state(Rig.NUMBER, 8).state(Rig.CODE, 0).state(Rig.FAULTS, 3).state(Rig.HALT, 0);
        rig.withoutVectors().set(Rig.IP, 54).goesDown().state(Rig.FAULTS, 5);
        Rig.due("wake()", rig.x.wake(), true);
        rig.state(Rig.NUMBER, 8).state(Rig.CODE, 0).state(Rig.FAULTS, 5);
        // TRAP by the vector of a fault is no fault.
        Rig.level0("TRAP 13").code(Rig.op(18, 0, 0), 13).goes().state(Rig.IP, 53).state(Rig.NUMBER, 0)
            .state(Rig.FAULTS, 0);
    }

    private static void segments() {
        Rig.sentence("Of segment q: what = 0 its selector (0 for none), 1 base, 2 limit, 3 kind (0 for none), 4 rank."
            + " NONE for another segment or what.");
        LevelMachine x = new LevelMachine();
        for (int q = 0; q <= 4; q++) {
            x.describe(q + 1, 100 + q, 65535 - q, 15 - q, q % 4, false);
            x.force(q, 4 * (q + 1) + 3);
        }
        for (int q = 0; q <= 4; q++) {
            loaded("each its own", x, q, 4 * (q + 1) + 3, 100 + q, 65535 - q, 15 - q, q % 4);
            for (int what : new int[] {-1, 5, 6, LEAST, MOST}) {
                Rig.due("segment(" + q + ", " + what + ")", x.segment(q, what), -1);
            }
        }
        for (int q : new int[] {-1, 5, 6, LEAST, MOST}) {
            for (int what = -1; what <= 5; what++) {
                Rig.due("segment(" + q + ", " + what + ")", x.segment(q, what), -1);
            }
        }
    }

    private static void callsWhenItDoesNotRun() {
        Rig.sentence("It neither stops nor is down any more.");
        for (int halt = 1; halt <= 2; halt++) {
            Rig rig = Rig.level0("halt " + halt).withoutVectors().code(halt == 1 ? 0 : 65535);
            rig.x.step(1);
            rig.state(Rig.HALT, halt).memory(600, 9).lies(600, 9).set(Rig.A, 8).state(Rig.A, 8);
            rig.describe(8, 600, 5, 2, 1, true).lies(32, 600, 5, 82).force(Rig.ES, 33).holds(Rig.ES, 33, 600, 5, 2, 1);
            // No call but wake makes it run again.
            rig.state(Rig.HALT, halt);
            Rig.due("step(4)", rig.x.step(4), 0);
            rig.state(Rig.HALT, halt);
        }
    }
}
