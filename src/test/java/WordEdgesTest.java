/** Terms: words that go round, what lies behind the memory, and the words of a descriptor. */
public final class WordEdgesTest {
    private static final int SET_B = Rig.op(1, 1, 0), MOVE = Rig.op(2, 0, 0);
    private static final int READ_B = Rig.op(6, 1, 1), WRITE_B = Rig.op(7, 1, 1);
    private static final int PUSH_B = Rig.op(11, 1, 0), POP_C = Rig.op(12, 2, 0), LOAD_DS = Rig.op(13, 0, 1);
    private static final int JUMP = Rig.op(15, 0, 0), CALL = Rig.op(16, 0, 0), RETURN = Rig.op(17, 0, 0);
    private static final int TRAP = Rig.op(18, 0, 0), BACK = Rig.op(19, 0, 0);

    public static void main(String[] args) {
        registersGoRound();
        ipGoesRound();
        spGoesRound();
        spGoesRoundInDeepEntries();
        offsetsGoRound();
        basesGoRound();
        basesOfTasksGoRound();
        behindTheMemory();
        stacksBehindTheMemory();
        codeBehindTheMemory();
        tasksBehindTheMemory();
        wordsOfDescriptors();
        vectors();
        limits();
        counts();
        segmentsStayAsLoaded();
        registers();
        flags();
        levels();
        kinds();
        Rig.finish();
    }

    private static void registersGoRound() {
        Rig.sentence("WORDS are 0 .. 65535, and arithmetic goes round.");
        result(3, 65535, 1, 0);
        result(3, 65535, 65535, 65534);
        result(3, 65535, 0, 65535);
        result(3, 32768, 32768, 0);
        result(4, 0, 1, 65535);
        result(4, 0, 65535, 1);
        result(4, 65534, 65535, 65535);
        result(4, 0, 0, 0);
    }

    private static void result(int operation, int one, int other, int want) {
        Rig.level0("operation " + operation + " of " + one + " and " + other).set(Rig.A, one).set(Rig.B, other)
            .code(Rig.op(operation, 0, 1)).goes().state(Rig.A, want).state(Rig.B, other);
        Rig.level0("operation " + operation + " of SP " + one + " and " + other).set(Rig.SP, one).set(Rig.B, other)
            .code(Rig.op(operation, 4, 1)).goes().state(Rig.SP, want);
    }

    /** Code whose offset 65535 is the word 600, and whose offset 0 the word 601. */
    private static Rig roundCode(String name, int ip, int... words) {
        return Rig.level0(name).describe(8, 601, 65535, 4, 0, true).force(Rig.CS, 32).set(Rig.IP, ip)
            .memory(601 + ip - 65536, words);
    }

    private static void ipGoesRound() {
        roundCode("an instruction at 65535", 65535, MOVE).goes().state(Rig.IP, 0);
        roundCode("n at 0", 65535, SET_B, 77).goes().state(Rig.B, 77).state(Rig.IP, 1);
        roundCode("n at 65535", 65534, SET_B, 78).goes().state(Rig.B, 78).state(Rig.IP, 0);
        roundCode("m at 0", 65534, JUMP, 5, 4).goes().state(Rig.IP, 5).holds(Rig.CS, 4);
        roundCode("n at 0, m at 1", 65535, JUMP, 6, 4).goes().state(Rig.IP, 6).holds(Rig.CS, 4);
        roundCode("CALL up to 65535", 65533, CALL, 5, 4).goes().state(Rig.IP, 5).lies(Rig.STACK0 + 28, 0, 32);
        roundCode("TRAP up to 65535", 65534, TRAP, 6).goes().state(Rig.IP, 46).lies(Rig.STACK0 + 27, 0, 32);
        roundCode("JUMP to a task up to 65535", 65533, JUMP, 5, 24)
            .memory(Rig.TASK6 + 7, 9, 0, 0, 0, 0, 0, 30, 4, 0, 0, 8).goes().lies(Rig.TASK5 + 7, 0);
        roundCode("a fault of an instruction at 65535", 65535, 65535).faults(6, 0).lies(Rig.STACK0 + 27, 65535);
        Rig.level0("GO to 65535").code(Rig.op(8, 0, 0), 65535).goes().state(Rig.IP, 65535);
    }

    /** A stack whose offset 65535 is the word 600, and whose offset 0 the word 601. */
    private static Rig roundStack(String name, int sp) {
        return Rig.level0(name).describe(8, 601, 65535, 2, 0, true).force(Rig.SS, 32).set(Rig.SP, sp).set(Rig.B, 9);
    }

    private static void spGoesRound() {
        roundStack("PUSH at 0", 0).code(PUSH_B).goes().state(Rig.SP, 65535).lies(599, 0, 9, 0);
        roundStack("PUSH at 1", 1).code(PUSH_B).goes().state(Rig.SP, 0).lies(599, 0, 0, 9);
        roundStack("POP at 65535", 65535).memory(600, 5, 6).code(POP_C, POP_C).goes().state(Rig.SP, 0).state(Rig.C, 5)
            .goes().state(Rig.SP, 1).state(Rig.C, 6);
        roundStack("CALL at 1", 1).code(CALL, 7, 4).goes().state(Rig.SP, 65535).lies(600, 3, 4);
        roundStack("TRAP at 2", 2).set(Rig.FLAGS, 3).code(TRAP, 6).goes().state(Rig.SP, 65535).lies(600, 2, 4, 3);
        roundStack("a fault at 3", 3).set(Rig.FLAGS, 3).code(65535).raises(6, 0).state(Rig.SP, 65535)
            .lies(600, 0, 0, 4, 3);
        roundStack("a fault at 0", 0).set(Rig.FLAGS, 3).code(65535).raises(6, 0).state(Rig.SP, 65532)
            .lies(597, 0, 0, 4, 3);
        roundStack("RETURN at 65535", 65535).memory(600, 9, 4).code(RETURN, 0).goes().state(Rig.SP, 1).state(Rig.IP, 9);
        roundStack("RETURN 5 at 65531", 65531).memory(596, 9, 4).code(RETURN, 5).goes().state(Rig.SP, 2);
        Rig.level0("RETURN 65535").memory(Rig.STACK0 + 30, 9, 4).code(RETURN, 65535).goes().state(Rig.SP, 31);
        roundStack("RETURN out at 65534", 65534).memory(599, 9, 15, 20, 19).code(RETURN, 0).goes()
            .state(Rig.SP, 20).holds(Rig.CS, 15);
        Rig.level0("RETURN 3 out to p 65534").memory(Rig.STACK0 + 30, 9, 15).memory(Rig.STACK0 + 35, 65534, 19)
            .code(RETURN, 3).goes().state(Rig.SP, 1);
        roundStack("BACK at 65534", 65534).memory(599, 9, 4, 3).code(BACK).goes().state(Rig.SP, 1).state(Rig.FLAGS, 3);
    }

    private static void spGoesRoundInDeepEntries() {
        // The inner stack is descriptor 9, whose offset 0 is the word 601; the gate is 8.
        for (int sp = 0; sp <= 4; sp++) {
            Rig rig = Rig.level3("a deep entry at " + sp).describe(8, 4, 9, 6, 3, true).describe(9, 601, 65535, 2, 0, true)
                .memory(Rig.TASK5 + 1, sp, 36).code(CALL, 0, 35).goes();
            rig.state(Rig.SP, (sp - 4) & 65535).lies(601 + sp - 4, 3, 15, 30, 19);
        }
        Rig rig = Rig.level3("words of a stack that goes round").describe(4, 601, 65535, 2, 3, true).force(Rig.SS, 19)
            .set(Rig.SP, 65535).memory(600, 91, 92).describe(8, 4, 9, 6, 3, true).memory(35, 2).code(CALL, 0, 35).goes();
        rig.lies(Rig.STACK0 + 29, 3, 15, 91, 92, 65535, 19);
    }

    private static void offsetsGoRound() {
        int[][] nxOffset = {{65535, 1, 0}, {65535, 2, 1}, {3, 65535, 2}, {0, 0, 0}, {32768, 32770, 2}, {1, 65534, 65535}};
        for (int[] one : nxOffset) {
            String name = "n " + one[0] + " and X " + one[1];
            int place = 601 + (short) one[2];
            data(name).set(Rig.X, one[1]).memory(place, 88).code(READ_B, one[0]).goes().state(Rig.B, 88);
            data(name).set(Rig.X, one[1]).set(Rig.B, 88).code(WRITE_B, one[0]).goes().lies(place, 88);
        }
    }

    /** Data whose offset 65535 is the word 600, and whose offset 0 the word 601. */
    private static Rig data(String name) {
        return Rig.level0(name).describe(8, 601, 65535, 2, 3, true).force(Rig.DS, 32);
    }

    private static void basesGoRound() {
        Rig.sentence("offsets 0 .. LIMIT are the words BASE + offset (going round)");
        // Of base 65535 offset 1 is the word 0, which no test needs.
        Rig.level0("READ").memory(0, 55).describe(8, 65535, 1, 1, 3, true).force(Rig.DS, 32).code(READ_B, 1).goes()
            .state(Rig.B, 55);
        Rig.level0("WRITE").set(Rig.B, 55).describe(8, 65535, 1, 2, 3, true).force(Rig.DS, 32).code(WRITE_B, 1).goes()
            .lies(0, 55);
        Rig.level0("PUSH").set(Rig.B, 55).describe(8, 65535, 1, 2, 0, true).force(Rig.SS, 32).set(Rig.SP, 2)
            .code(PUSH_B).goes().lies(0, 55).state(Rig.SP, 1);
        Rig.level0("POP").memory(0, 55).describe(8, 65535, 1, 2, 0, true).force(Rig.SS, 32).set(Rig.SP, 1)
            .code(POP_C).goes().state(Rig.C, 55).state(Rig.SP, 2);
        Rig.level0("fetching").memory(0, SET_B, 55).describe(8, 65535, 2, 3, 0, true).force(Rig.CS, 32).set(Rig.IP, 1)
            .goes().state(Rig.B, 55).state(Rig.IP, 3);
        Rig.level0("far round").memory(600, 55).describe(8, 60000, 65535, 1, 3, true).force(Rig.DS, 32)
            .code(READ_B, 6136).goes().state(Rig.B, 55);
    }

    private static void basesOfTasksGoRound() {
        Rig.level3("the stack of a deep entry").memory(0, 35, 8).describe(5, 65535, 17, 8, 0, true).force(Rig.TR, 20)
            .describe(8, 4, 9, 6, 3, true).code(CALL, 0, 35).goes().holds(Rig.SS, 8).state(Rig.SP, 31);
        // Of base 65529 the words 7 .. 17 are 0 .. 10; what runs has been loaded, so that its descriptors may go.
        Rig.level0("the old task").set(Rig.A, 11).set(Rig.FLAGS, 2).force(Rig.DS, 28).describe(5, 65529, 17, 8, 0, true)
            .force(Rig.TR, 20).memory(Rig.TASK6 + 7, 9, 0, 0, 0, 0, 0, 30, 15, 0, 0, 19).code(JUMP, 0, 24).goes()
            .lies(0, 3, 2, 11, 0, 0, 0, 30, 4, 28, 0, 8);
        Rig.level0("the new task").describe(6, 65529, 17, 7, 0, true).code(JUMP, 0, 24)
            .memory(0, 9, 3, 21, 22, 23, 24, 25, 15, 31, 0, 19).goes().state(Rig.IP, 9).state(Rig.FLAGS, 3)
            .state(Rig.A, 21).state(Rig.SP, 25).holds(Rig.CS, 15).holds(Rig.DS, 31).holds(Rig.SS, 19);
    }

    private static void behindTheMemory() {
        Rig.sentence("MEMORY has 640 words; what lies behind it is 65535 when it is read, and lost when it is written.");
        for (int base : new int[] {639, 300, 0, 65535}) {
            Rig last = Rig.level0("READ of the last word").memory(639, 5).describe(8, base, 65535, 1, 3, true);
            last.force(Rig.DS, 32).code(READ_B, (639 - base) & 65535).goes().state(Rig.B, 5);
            Rig behind = Rig.level0("READ behind").memory(639, 5).describe(8, base, 65535, 1, 3, true);
            behind.force(Rig.DS, 32).code(READ_B, (640 - base) & 65535).goes().state(Rig.B, 65535);
            Rig far = Rig.level0("READ of 65535").describe(8, base, 65535, 1, 3, true);
            far.force(Rig.DS, 32).code(READ_B, (65535 - base) & 65535).goes().state(Rig.B, 65535);
        }
        Rig rig = Rig.level0("WRITE").set(Rig.B, 7).memory(0, 1).memory(639, 5).describe(8, 639, 10, 2, 3, true);
        rig.force(Rig.DS, 32).code(WRITE_B, 1, READ_B, 1, WRITE_B, 0).goes().lies(639, 5).lies(0, 1);
        rig.goes().state(Rig.B, 65535).set(Rig.B, 7).goes().lies(639, 7);
        Rig.due("peek(640)", rig.x.peek(640), -1);
    }

    private static void stacksBehindTheMemory() {
        Rig rig = Rig.level0("PUSH and POP").describe(8, 635, 20, 2, 0, true).force(Rig.SS, 32).set(Rig.SP, 6)
            .set(Rig.B, 7).code(PUSH_B, POP_C).goes().state(Rig.SP, 5).lies(639, 0).goes().state(Rig.SP, 6);
        rig.state(Rig.C, 65535);
        Rig.level0("PUSH to the last word").describe(8, 635, 20, 2, 0, true).force(Rig.SS, 32).set(Rig.SP, 5)
            .set(Rig.B, 7).code(PUSH_B, POP_C).goes().lies(639, 7).goes().state(Rig.C, 7);
        // The selector's word is lost, the offset's is not.
        Rig.level0("CALL").describe(8, 635, 20, 2, 0, true).force(Rig.SS, 32).set(Rig.SP, 6).code(CALL, 9, 4).goes()
            .state(Rig.SP, 4).lies(639, 3);
        Rig.level0("RETURN").describe(8, 635, 20, 2, 0, true).force(Rig.SS, 32).set(Rig.SP, 4).memory(639, 9)
            .code(RETURN, 0).describe(45, 24, 0, 9, 0, true).memory(Rig.TASK6 + 7, 20, 0, 0, 0, 0, 0, 30, 4, 0, 0, 8)
            .raises(13, 65532);
        Rig.level3("words of the old stack").describe(4, 635, 20, 2, 3, true).force(Rig.SS, 19).set(Rig.SP, 4)
            .memory(639, 91).describe(8, 4, 9, 6, 3, true).memory(35, 2).code(CALL, 0, 35).goes()
            .lies(Rig.STACK0 + 29, 3, 15, 91, 65535, 4, 19);
        Rig.level3("a deep entry's stack").describe(9, 635, 20, 2, 0, true).memory(Rig.TASK5 + 1, 6, 36)
            .describe(8, 4, 9, 6, 3, true).code(CALL, 0, 35).goes().state(Rig.SP, 2).lies(636, 0, 3, 15, 30);
    }

    private static void codeBehindTheMemory() {
        Rig.level0("the last word").describe(8, 639, 10, 4, 0, true).force(Rig.CS, 32).memory(639, MOVE).goes()
            .state(Rig.IP, 1);
        Rig.level0("behind it").describe(8, 639, 10, 4, 0, true).force(Rig.CS, 32).set(Rig.IP, 1).faults(6, 0);
        Rig.level0("n behind it").describe(8, 639, 10, 4, 0, true).force(Rig.CS, 32).memory(639, SET_B).goes()
            .state(Rig.B, 65535).state(Rig.IP, 2);
        Rig.level0("m behind it").describe(8, 638, 10, 4, 0, true).force(Rig.CS, 32).memory(638, JUMP, 5)
            .faults(13, 65532);
    }

    private static void tasksBehindTheMemory() {
        Rig.faulty(10, 65532, () -> Rig.level3("a deep entry's selector").describe(5, 638, 17, 8, 0, true)
            .force(Rig.TR, 20).memory(639, 35).describe(8, 4, 9, 6, 3, true).code(CALL, 0, 35));
        Rig.faulty(10, 65532, () -> Rig.level3("a deep entry's SP").describe(5, 639, 17, 8, 0, true)
            .force(Rig.TR, 20).describe(8, 4, 9, 6, 3, true).code(CALL, 0, 35));
        Rig.faulty(13, 65532, () -> Rig.level0("BACK to word 0").describe(5, 640, 17, 8, 0, true).force(Rig.TR, 20)
            .set(Rig.FLAGS, 4).code(BACK));
        Rig.level0("the old task").describe(5, 630, 17, 8, 0, true).force(Rig.TR, 20).set(Rig.A, 11).set(Rig.B, 12)
            .memory(Rig.TASK6 + 7, 9, 0, 0, 0, 0, 0, 30, 15, 0, 0, 19).code(JUMP, 0, 24).goes().lies(637, 3, 0, 11)
            .lies(0, 0, 0, 0, 0);
        Rig.faulty(13, 65532, () -> Rig.level0("the new task").describe(6, 630, 17, 7, 0, true).memory(637, 9, 0, 0)
            .code(JUMP, 0, 24));
        // Of base 65535 word 0 is behind the memory, and the words 7 .. 17 are 6 .. 16.
        Rig.level0("word 0 of a task that is nested").describe(6, 65535, 17, 7, 0, true).code(CALL, 0, 24)
            .describe(9, Rig.CODE3, 60, 4, 3, true).describe(10, Rig.STACK3, 40, 2, 3, true)
            .memory(6, 9, 3, 21, 22, 23, 24, 25, 39, 0, 0, 43).goes().state(Rig.IP, 9).state(Rig.FLAGS, 7)
            .holds(Rig.CS, 39).holds(Rig.TR, 24, 65535, 17, 8, 0).lies(0, 0).lies(639, 0);
    }

    private static void wordsOfDescriptors() {
        Rig.sentence("DESCRIPTORS 0 .. 47 are the words 4 * number on: FIRST, SECOND, a word of a KIND (its value modulo 16),"
            + " a RANK (its value / 16, modulo 4) and whether it is THERE (its value / 64 is odd), and FOURTH.");
        for (int third : new int[] {1, 2, 15, 17, 31, 49, 63, 65, 129, 32769, 65535, 65521, 65487, 12345}) {
            for (int k : new int[] {1, 31}) {
                LevelMachine x = new LevelMachine();
                x.poke(4 * k, 300);
                x.poke(4 * k + 1, 50);
                x.poke(4 * k + 2, third);
                x.poke(4 * k + 3, 65535);
                x.force(1, 4 * k + 1);
                int[] want = {4 * k + 1, 300, 50, third % 16, third / 16 % 4};
                for (int what = 0; what <= 4; what++) {
                    Rig.due("segment(1, " + what + ") by " + third, x.segment(1, what), want[what]);
                }
            }
        }
        for (int above : new int[] {0, 1, 2, 3, 510, 511, 1022, 1023}) {
            int third = 64 * above + 50;
            Rig rig = Rig.level0("there by " + third).describe(8, 600, 10, 2, 3, true).memory(34, third).set(Rig.A, 32)
                .code(LOAD_DS);
            if (above % 2 == 1) {
                rig.goes().holds(Rig.DS, 32, 600, 10, 2, 3);
            } else {
                rig.faults(11, 32);
            }
        }
        LevelMachine x = new LevelMachine();
        x.poke(6, 65520);
        Rig.due("force(1, 4) of kind 0", x.force(1, 4), true);
        Rig.due("segment(1, 0)", x.segment(1, 0), 0);
    }

    private static void vectors() {
        Rig.sentence("32 + v belongs to VECTOR v, 0 .. 15.");
        Rig.level0("vector 0").memory(128, 4, 9, 74).code(TRAP, 0).goes().state(Rig.IP, 9);
        Rig.level0("vector 15").memory(188, 4, 9, 74).code(TRAP, 15).goes().state(Rig.IP, 9);
        Rig.faulty(13, 192, () -> Rig.level0("vector 16").memory(192, 4, 9, 74).code(TRAP, 16));
        Rig.level0("fault 6").memory(128 + 24, 4, 9, 74).code(65535).raises(6, 0).state(Rig.IP, 9);
    }

    private static void limits() {
        Rig.sentence("Of 1 to 5 and of tasks FIRST is the BASE, SECOND the LIMIT:"
            + " offsets 0 .. LIMIT are the words BASE + offset (going round).");
        for (int kind : new int[] {1, 2, 4, 5}) {
            Rig.level0("limit 0").describe(8, 600, 0, kind, 3, true).memory(600, 5, 6).force(Rig.DS, 32)
                .code(READ_B, 0).goes().state(Rig.B, 5);
            Rig.faulty(13, 0, () -> Rig.level0("above limit 0").describe(8, 600, 0, kind, 3, true).memory(600, 5, 6)
                .force(Rig.DS, 32).code(READ_B, 1));
            Rig.level0("limit 65535").describe(8, 601, 65535, kind, 3, true).memory(600, 5, 6).force(Rig.DS, 32)
                .code(READ_B, 65535).goes().state(Rig.B, 5);
            Rig.faulty(13, 0, () -> Rig.level0("above limit 65534").describe(8, 601, 65534, kind, 3, true)
                .force(Rig.DS, 32).code(READ_B, 65535));
        }
    }

    private static void counts() {
        Rig.sentence("Of gates FIRST is a selector, SECOND an offset, FOURTH a COUNT (modulo 8).");
        for (int fourth : new int[] {0, 1, 7, 8, 9, 15, 16, 65528, 65535}) {
            Rig rig = Rig.level3("FOURTH " + fourth).describe(8, 4, 9, 6, 3, true).memory(35, fourth).code(CALL, 0, 35)
                .memory(Rig.STACK3 + 30, 81, 82, 83, 84, 85, 86, 87, 88).goes();
            int count = fourth % 8;
            rig.state(Rig.SP, 31 - count).lies(Rig.STACK0 + 31 - count, 3, 15).lies(Rig.STACK0 + 33, 30, 19);
            for (int i = 0; i < count; i++) {
                rig.lies(Rig.STACK0 + 33 - count + i, 81 + i);
            }
        }
        Rig.level0("SECOND 60").describe(8, 7, 60, 6, 0, true).code(JUMP, 9, 32).goes().holds(Rig.CS, 4).state(Rig.IP, 60);
        Rig.level0("SECOND 0").describe(8, 4, 0, 6, 0, true).code(JUMP, 9, 32).goes().state(Rig.IP, 0);
    }

    private static void segmentsStayAsLoaded() {
        Rig.sentence("each has a selector, and base, limit, kind and rank as they were when it was loaded; or none (kind 0)");
        Rig.level0("READ").describe(8, 600, 5, 1, 3, true).memory(605, 44).force(Rig.DS, 32).describe(8, 0, 0, 0, 0, false)
            .code(READ_B, 5).goes().state(Rig.B, 44).holds(Rig.DS, 32, 600, 5, 1, 3);
        Rig.level0("WRITE").describe(8, 600, 5, 2, 3, true).force(Rig.DS, 32).describe(8, 0, 0, 1, 0, false)
            .set(Rig.B, 44).code(WRITE_B, 5).goes().lies(605, 44);
        Rig.faulty(13, 0, () -> Rig.level0("READ above the old limit").describe(8, 600, 5, 1, 3, true).force(Rig.DS, 32)
            .describe(8, 600, 50, 1, 3, true).code(READ_B, 6));
        Rig.level0("a stack").describe(2, 0, 0, 0, 0, false).set(Rig.B, 44).code(PUSH_B, POP_C).goes()
            .lies(Rig.STACK0 + 29, 44).goes().state(Rig.C, 44);
        Rig.level0("code").describe(1, 0, 0, 0, 0, false).code(SET_B, 44).goes().state(Rig.B, 44);
        Rig.level3("a task").describe(5, 0, 0, 0, 0, false).describe(8, 4, 9, 6, 3, true).code(CALL, 0, 35).goes()
            .holds(Rig.SS, 8);
        Rig.level0("none is loaded").describe(8, 600, 5, 2, 3, true).force(Rig.DS, 32).set(Rig.A, 3).code(LOAD_DS).goes()
            .holds(Rig.DS, 0, 0, 0, 0, 0);
        Rig.level0("the level after a jump").describe(8, 600, 5, 5, 0, true).code(JUMP, 3, 35).goes().state(Rig.LEVEL, 0);
    }

    private static void registers() {
        Rig.sentence("REGISTERS: 0 A, 1 B, 2 C, 3 X, 4 SP; IP; FLAGS: Z 1, N 2, NESTED 4.");
        for (int r = 0; r <= 4; r++) {
            Rig rig = Rig.level0("SET " + r).set(Rig.SP, 0).code(Rig.op(1, r, 0), 65535).goes();
            for (int other = 0; other <= 4; other++) {
                rig.state(other, other == r ? 65535 : 0);
            }
        }
        // 3 is X, as READ uses it, and 4 is SP, as PUSH does.
        Rig.level0("X").describe(8, 600, 5, 1, 3, true).force(Rig.DS, 32).memory(602, 44).set(3, 2).code(READ_B, 0).goes()
            .state(1, 44);
        Rig.level0("SP").set(4, 20).set(1, 44).code(PUSH_B).goes().state(4, 19).lies(Rig.STACK0 + 19, 44);
    }

    private static void flags() {
        Rig.level0("Z").set(Rig.A, 5).code(Rig.op(4, 0, 0)).goes().state(Rig.FLAGS, 1);
        Rig.level0("N").set(Rig.A, 32768).code(Rig.op(3, 0, 1)).goes().state(Rig.FLAGS, 2);
        Rig.level0("NESTED").memory(Rig.TASK6 + 7, 9, 0, 0, 0, 0, 0, 30, 4, 0, 0, 8).code(CALL, 0, 24).goes()
            .state(Rig.FLAGS, 4);
    }

    private static void levels() {
        Rig.sentence("The LEVEL is the wish of CS's selector; 0 is the most trusted.");
        // The rank of the code does not count.
        for (int level = 0; level <= 3; level++) {
            for (int rank = 0; rank <= 3; rank++) {
                Rig rig = Rig.level0("wish " + level + ", rank " + rank).describe(8, Rig.CODE0, 60, 4, rank, true)
                    .force(Rig.CS, 32 + level).state(Rig.LEVEL, level).code(0);
                if (level == 0) {
                    rig.goes().state(Rig.HALT, 1);
                } else {
                    rig.faults(13, 0);
                }
            }
        }
        Rig.level3("without CS").force(Rig.CS, 3).state(Rig.LEVEL, 0);
    }

    private static void kinds() {
        Rig.sentence("KINDS: 1 DATA, 2 DATA that may be written, 3 CODE, 4 CODE that may be read, 5 EASY code (may be read),"
            + " 6 a GATE, 7 a free TASK, 8 a BUSY one, 9 a TASK GATE, 10 a TRAP GATE.");
        for (int kind = 0; kind <= 15; kind++) {
            may(".LL.LL..........".charAt(kind) == 'L', kind, 32, LOAD_DS);
            may("...JJJJJ.J......".charAt(kind) == 'J', kind, 32, JUMP, 9, 32);
            may("...JJJJJ.J......".charAt(kind) == 'J', kind, 32, CALL, 9, 32);
            may(".........TT.....".charAt(kind) == 'T', kind, 188, TRAP, 15);
            may(".......T........".charAt(kind) == 'T', kind, 32, Rig.op(20, 0, 0));
        }
    }

    /** Descriptor 8 (and vector 15) of this kind lead to task 6 or to code 1 where they are gates. */
    private static void may(boolean may, int kind, int code, int... words) {
        int first = kind == 6 || kind == 10 ? 4 : kind == 9 ? 24 : kind == 7 ? Rig.TASK6 : 590;
        Rig rig = Rig.level0("kind " + kind + " by operation " + words[0] / 64).describe(8, first, 20, kind, 0, true)
            .describe(47, first, 20, kind, 0, true).set(Rig.A, 32).code(words)
            .memory(Rig.TASK6 + 7, 9, 0, 0, 0, 0, 0, 30, 4, 0, 0, 8);
        if (may) {
            rig.goes();
        } else {
            rig.faults(13, code);
        }
    }
}
