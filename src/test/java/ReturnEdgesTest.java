/** Terms: RETURN, and BACK without NESTED: each fault with its code, and which comes first. */
public final class ReturnEdgesTest {
    private static final int RETURN = Rig.op(17, 0, 0), BACK = Rig.op(19, 0, 0);
    private static final int[] WRONGS = {128, 160, 256 + 32, 65532};

    public static void main(String[] args) {
        wishOfEveryLevel();
        popsBeforeTheWish();
        spBecomesMore();
        entersWithin();
        entersOut();
        loadsTheOuterStack();
        outInOrder();
        outerSp();
        hidesData();
        flags();
        Rig.finish();
    }

    /** RETURN n, or BACK if n is negative, at a level to offset 9 of c, out to p and t; 8 is code, 10 a stack. */
    private static Rig comeBack(int n, int level, int c, int p, int t) {
        Rig rig = Rig.at(level, (n < 0 ? "BACK" : "RETURN " + n) + " at " + level + " to " + c + " with " + t);
        int top = rig.x.segment(Rig.SS, 1) + 30;
        if (n < 0) {
            return rig.code(BACK).memory(top, 9, c, 0, p, t);
        }
        return rig.code(RETURN, n).memory(top, 9, c).memory(top + 2 + n, p, t);
    }

    private static Rig code(Rig rig, int limit, int kind, int rank, boolean there) {
        return rig.describe(8, Rig.CODE0, limit, kind, rank, there);
    }

    private static Rig stack(Rig rig, int kind, int rank, boolean there) {
        return rig.describe(10, 590, 9, kind, rank, there);
    }

    private static void wishOfEveryLevel() {
        Rig.sentence("13, c if its wish is less than the level;");
        for (int n = -1; n <= 1; n++) {
            int dropped = n;
            for (int level = 0; level <= 3; level++) {
                for (int wish = 0; wish <= 3; wish++) {
                    int its = level;
                    int c = 32 + wish;
                    int rank = wish;
                    if (wish < level) {
                        Rig.faulty(13, 32, () -> code(comeBack(dropped, its, c, 5, 40), 9, 4, rank, true));
                        Rig.faulty(13, 32, () -> code(comeBack(dropped, its, c, 5, 40), 8, 2, rank, false));
                        Rig.faulty(13, 0, () -> comeBack(dropped, its, c - 32, 5, 40));
                        Rig.faulty(13, 128, () -> comeBack(dropped, its, c + 96, 5, 40));
                        continue;
                    }
                    Rig rig = comeBack(n, level, c, 5, 40 + wish);
                    int within = rig.x.segment(Rig.SS, 0);
                    int popped = n < 0 ? 33 : 32 + n;
                    int then = 5 + Math.max(n, 0);
                    stack(code(rig, 9, 4, rank, true), 2, rank, true).goes().holds(Rig.CS, c, 200, 9, 4, rank)
                        .state(Rig.IP, 9).state(Rig.LEVEL, wish).state(Rig.SP, wish == level ? popped : then)
                        .holds(Rig.SS, wish == level ? within : 40 + wish);
                }
            }
        }
    }

    private static void popsBeforeTheWish() {
        Rig.sentence("RETURN n: an offset and a selector c are popped; 13, c if its wish is less than the level;"
            + " SP becomes n more;");
        // The last word of the stack is c, so that there is no word behind it.
        Rig.faulty(13, 4, () -> Rig.level3("RETURN of the last two words").memory(Rig.STACK3 + 39, 9, 4).set(Rig.SP, 39)
            .code(RETURN, 0));
        Rig.faulty(12, 0, () -> Rig.level3("RETURN of one word").memory(Rig.STACK3 + 40, 4).set(Rig.SP, 40)
            .code(RETURN, 0));
        Rig.sentence("Otherwise an offset, a selector c and FLAGS are popped (FLAGS modulo 8), and the rest is as RETURN 0.");
        Rig.faulty(12, 0, () -> Rig.level3("BACK of two words").memory(Rig.STACK3 + 39, 9, 4).set(Rig.SP, 39).code(BACK));
        Rig.faulty(13, 4, () -> Rig.level3("BACK of three words").memory(Rig.STACK3 + 38, 9, 4, 0).set(Rig.SP, 38)
            .code(BACK));
    }

    private static void spBecomesMore() {
        Rig.sentence("SP becomes n more; if the wish is the level, c is entered at the offset for it.");
        for (int n : new int[] {0, 1, 8, 9, 1000, 65503, 65504, 65535}) {
            Rig.level0("RETURN " + n).memory(Rig.STACK0 + 30, 9, 4).code(RETURN, n).goes().state(Rig.SP, (32 + n) % 65536)
                .state(Rig.IP, 9).holds(Rig.SS, 8);
        }
    }

    private static void entersWithin() {
        Rig.sentence("ENTERING code, by selector s at offset n, for a level L: 13, 0 if NONE; 13, s if WRONG or the kind is"
            + " not 3 to 5; 13, s if the kind is 5 and its rank is above L, or else its rank is not L; 11, s if not there;"
            + " 13, 0 if n is above its limit. CS becomes s with the wish L, IP n.");
        for (int n = -1; n <= 0; n++) {
            int dropped = n;
            Rig.faulty(13, 0, () -> comeBack(dropped, 0, 0, 5, 40).describe(0, 200, 9, 4, 0, true));
            for (int c : WRONGS) {
                Rig.faulty(13, c, () -> code(comeBack(dropped, 0, c, 5, 40), 9, 4, 0, true));
            }
            for (int kind = 0; kind <= 15; kind++) {
                for (int rank = 0; rank <= 3; rank++) {
                    within(dropped, kind, rank);
                }
            }
        }
    }

    private static void within(int n, int kind, int rank) {
        for (int level = 0; level <= 3; level++) {
            int its = level;
            boolean fine = kind == 5 ? rank <= level : (kind == 3 || kind == 4) && rank == level;
            if (fine) {
                code(comeBack(n, level, 32 + level, 5, 40), 9, kind, rank, true).goes()
                    .holds(Rig.CS, 32 + level, 200, 9, kind, rank);
                Rig.faulty(11, 32, () -> code(comeBack(n, its, 32 + its, 5, 40), 8, kind, rank, false));
                Rig.faulty(13, 0, () -> code(comeBack(n, its, 32 + its, 5, 40), 8, kind, rank, true));
            } else {
                code(comeBack(n, level, 32 + level, 5, 40), 9, kind, rank, true).faults(13, 32);
                code(comeBack(n, level, 32 + level, 5, 40), 8, kind, rank, false).faults(13, 32);
            }
        }
    }

    private static void entersOut() {
        Rig.sentence("Otherwise (OUT) a word p and a selector t are popped; c is entered for its wish;"
            + " then SS is loaded with t (by the new level), SP becomes p + n;");
        for (int n = -1; n <= 2; n++) {
            int dropped = n;
            for (int c = 1; c <= 3; c++) {
                int none = c;
                Rig.faulty(13, 0, () -> comeBack(dropped, 0, none, 5, 40).describe(0, 200, 9, 4, none, true));
                Rig.faulty(13, 128, () -> comeBack(dropped, 0, 128 + none, 5, 40));
                for (int kind = 0; kind <= 15; kind++) {
                    for (int rank = 0; rank <= 3; rank++) {
                        out(dropped, none, kind, rank);
                    }
                }
            }
        }
    }

    private static void out(int n, int wish, int kind, int rank) {
        boolean fine = kind == 5 ? rank <= wish : (kind == 3 || kind == 4) && rank == wish;
        Rig rig = stack(code(comeBack(n, 0, 32 + wish, 5, 40 + wish), 9, kind, rank, true), 2, wish, true);
        if (fine) {
            rig.goes().holds(Rig.CS, 32 + wish, 200, 9, kind, rank).holds(Rig.SS, 40 + wish, 590, 9, 2, wish);
            stack(code(comeBack(n, 0, 32 + wish, 5, 40 + wish), 8, kind, rank, false), 2, wish, true).faults(11, 32);
            stack(code(comeBack(n, 0, 32 + wish, 5, 40 + wish), 8, kind, rank, true), 2, wish, true).faults(13, 0);
        } else {
            rig.faults(13, 32);
        }
    }

    private static void loadsTheOuterStack() {
        for (int n = -1; n <= 1; n++) {
            int dropped = n;
            for (int t = 0; t <= 3; t++) {
                int none = t;
                Rig.faulty(13, 0, () -> code(comeBack(dropped, 0, 35, 5, none), 9, 4, 3, true)
                    .describe(0, 590, 9, 2, 3, true));
            }
            for (int t : WRONGS) {
                Rig.faulty(13, t, () -> code(comeBack(dropped, 0, 35, 5, t + 3), 9, 4, 3, true));
            }
            for (int level = 1; level <= 3; level++) {
                for (int wish = 0; wish <= 3; wish++) {
                    for (int rank = 0; rank <= 3; rank++) {
                        outerStack(n, level, wish, rank);
                    }
                }
            }
            for (int kind = 0; kind <= 15; kind++) {
                int its = kind;
                if (kind != 2) {
                    Rig.faulty(13, 40, () -> stack(code(comeBack(dropped, 0, 35, 5, 43), 9, 4, 3, true), its, 3, true));
                }
            }
        }
    }

    private static void outerStack(int n, int level, int wish, int rank) {
        if (wish == level && rank == level) {
            stack(code(comeBack(n, 0, 32 + level, 5, 40 + wish), 9, 4, level, true), 2, rank, true).goes()
                .holds(Rig.SS, 40 + wish, 590, 9, 2, rank);
            Rig.faulty(12, 40,
                () -> stack(code(comeBack(n, 0, 32 + level, 5, 40 + wish), 9, 4, level, true), 2, rank, false));
        } else {
            Rig.faulty(13, 40,
                () -> stack(code(comeBack(n, 0, 32 + level, 5, 40 + wish), 9, 4, level, true), 2, rank, true));
        }
    }

    private static void outInOrder() {
        for (int n = -1; n <= 0; n++) {
            int dropped = n;
            // What c raises comes before what t raises.
            Rig.faulty(13, 32, () -> stack(code(comeBack(dropped, 0, 35, 5, 43), 9, 4, 2, true), 1, 3, true));
            Rig.faulty(11, 32, () -> stack(code(comeBack(dropped, 0, 35, 5, 43), 9, 4, 3, false), 2, 3, false));
            Rig.faulty(13, 0, () -> stack(code(comeBack(dropped, 0, 35, 5, 43), 8, 4, 3, true), 2, 3, false));
            Rig.faulty(13, 32, () -> code(comeBack(dropped, 0, 35, 5, 0), 9, 2, 3, true));
        }
        // Both are popped before c is looked at.
        Rig.faulty(12, 0, () -> Rig.level0("RETURN of three words").memory(Rig.STACK0 + 38, 9, 131, 20).set(Rig.SP, 38)
            .code(RETURN, 0));
        Rig.faulty(12, 0, () -> Rig.level0("BACK of four words").memory(Rig.STACK0 + 37, 9, 131, 0, 20).set(Rig.SP, 37)
            .code(BACK));
        // p and t lie n words behind c.
        Rig.faulty(12, 0, () -> Rig.level0("RETURN 8 out").memory(Rig.STACK0 + 30, 9, 15).code(RETURN, 8));
        Rig.level0("RETURN 7 out").memory(Rig.STACK0 + 30, 9, 15).memory(Rig.STACK0 + 39, 20, 19).code(RETURN, 7).goes()
            .state(Rig.SP, 27).holds(Rig.SS, 19);
    }

    private static void outerSp() {
        int[][] pnSp = {{0, 0, 0}, {65535, 0, 65535}, {65535, 1, 0}, {65530, 7, 1}, {0, 7, 7}};
        for (int[] one : pnSp) {
            Rig.level0("p " + one[0] + " and n " + one[1]).memory(Rig.STACK0 + 30, 9, 15)
                .memory(Rig.STACK0 + 32 + one[1], one[0], 19).code(RETURN, one[1]).goes().state(Rig.SP, one[2]);
        }
        // n goes round on the inner stack, too: p and t are what was popped as offset and c.
        Rig.level0("RETURN 65534").memory(Rig.STACK0 + 30, 9, 15).describe(3, 590, 9, 4, 3, true).code(RETURN, 65534)
            .faults(13, 12);
    }

    private static void hidesData() {
        Rig.sentence("and DS and ES have none then, if their rank is less than the new level and their kind is not 5.");
        for (int n = -1; n <= 0; n++) {
            for (int level = 0; level <= 3; level++) {
                for (int rank = 0; rank <= 3; rank++) {
                    for (int kind : new int[] {1, 2, 3, 4, 5, 6, 15}) {
                        hides(n, level, kind, rank);
                    }
                }
            }
        }
        comeBack(0, 0, 15, 5, 19).force(Rig.DS, 0).force(Rig.ES, 0).goes().holds(Rig.DS, 0, 0, 0, 0, 0)
            .holds(Rig.ES, 0, 0, 0, 0, 0);
    }

    /** From level 0 out to level (or within 0); the descriptor is another by then, and is not looked at. */
    private static void hides(int n, int level, int kind, int rank) {
        for (int q = Rig.DS; q <= Rig.ES; q++) {
            Rig rig = stack(code(comeBack(n, 0, 32 + level, 5, 40 + level), 9, 4, level, true), 2, level, true)
                .force(Rig.DS + Rig.ES - q, 31).describe(11, 590, 9, kind, rank, true).force(q, 44)
                .describe(11, 590, 9, kind == 5 ? 1 : 5, 3 - rank, true).goes();
            if (rank < level && kind != 5) {
                rig.holds(q, 0, 0, 0, 0, 0);
            } else {
                rig.holds(q, 44, 590, 9, kind, rank);
            }
            rig.holds(Rig.DS + Rig.ES - q, 31, 540, 40, 2, 3);
        }
    }

    private static void flags() {
        Rig.sentence("Otherwise an offset, a selector c and FLAGS are popped (FLAGS modulo 8), and the rest is as RETURN 0.");
        for (int popped : new int[] {0, 1, 2, 3, 4, 7, 8, 15, 65528, 65535}) {
            for (int before : new int[] {0, 3}) {
                Rig.level0("BACK with " + popped).set(Rig.FLAGS, before).memory(Rig.STACK0 + 30, 9, 4, popped).code(BACK)
                    .goes().state(Rig.FLAGS, popped % 8).state(Rig.SP, 33);
                Rig.level0("BACK out with " + popped).set(Rig.FLAGS, before).memory(Rig.STACK0 + 30, 9, 15, popped, 20, 19)
                    .code(BACK).goes().state(Rig.FLAGS, popped % 8).state(Rig.SP, 20);
            }
        }
        // RETURN leaves FLAGS alone.
        Rig.level0("RETURN").set(Rig.FLAGS, 7).memory(Rig.STACK0 + 30, 9, 4, 0).code(RETURN, 0).goes().state(Rig.FLAGS, 7);
        Rig.level0("RETURN out").set(Rig.FLAGS, 7).memory(Rig.STACK0 + 30, 9, 15, 20, 19).code(RETURN, 0).goes()
            .state(Rig.FLAGS, 7);
    }
}
