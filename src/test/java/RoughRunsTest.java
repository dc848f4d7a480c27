import java.util.Random;

/** All promises: whatever is called, no call throws, answers stay in their bounds, and equal runs answer alike. */
public final class RoughRunsTest {
    private static final int RUNS = 400;
    /** With those of inBounds no more than the 512 that an object is good for. */
    private static final int CALLS = 500;

    public static void main(String[] args) {
        for (int run = 0; run < RUNS; run++) {
            Random one = new Random(run);
            Random other = new Random(run);
            LevelMachine x = new LevelMachine();
            LevelMachine y = new LevelMachine();
            for (int i = 0; i < CALLS; i++) {
                int got = call(x, one);
                Rig.due("call " + i + " of run " + run, got, call(y, other));
                Rig.due("an answer of run " + run + " in bounds", got >= -1 && got <= 65535, true);
            }
            inBounds(x, run);
        }
        Rig.finish();
    }

    private static void inBounds(LevelMachine x, int run) {
        for (int what = 0; what <= 11; what++) {
            int most = what == 6 ? 7 : what == 7 ? 3 : what == 8 ? 2 : what == 9 ? 13 : 65535;
            int got = x.state(what);
            Rig.due("state(" + what + ") of run " + run + " in bounds", got >= 0 && got <= most, true);
        }
    }

    private static int call(LevelMachine x, Random random) {
        switch (random.nextInt(12)) {
            case 0: return x.poke(number(random, 640), number(random, 65536)) ? 1 : 0;
            case 1: return x.poke(number(random, 640), 64 * random.nextInt(23) + random.nextInt(64)) ? 1 : 0;
            case 2: return x.peek(number(random, 640));
            case 3:
            case 4: return x.describe(number(random, 48), number(random, 640), number(random, 640),
                number(random, 16), number(random, 4), random.nextInt(4) != 0) ? 1 : 0;
            case 5: return x.set(number(random, 7), number(random, 128)) ? 1 : 0;
            case 6: return x.force(number(random, 5), number(random, 128)) ? 1 : 0;
            case 7:
            case 8: return x.step(number(random, 5));
            case 9: return x.wake() ? 1 : 0;
            case 10: return x.state(number(random, 12));
            default: return x.segment(number(random, 5), number(random, 5));
        }
    }

    /** Mostly a number below bound, sometimes any other. */
    private static int number(Random random, int bound) {
        switch (random.nextInt(16)) {
            case 0: return random.nextInt();
            case 1: return bound;
            case 2: return -1;
            case 3: return random.nextInt(65536);
            default: return random.nextInt(bound);
        }
    }
}
