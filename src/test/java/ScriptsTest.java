/** Promises 26 and 27: scripts and simulations. */
public final class ScriptsTest {
    private static final int NONE = RangeGraves.NONE;
    private static final String HISTORY = "Gp10005p20500fp30007fo";

    public static void main(String[] arguments) {
        promise26WrongArguments();
        promise26Zeros();
        promise26PutAndBury();
        promise26FlushAndMerge();
        promise26OpenAndClose();
        promise26Tests();
        promise26OrderAndCopy();
        promise27WrongArguments();
        promise27Simulate();
        promise27IsOnACopy();
        Check.end("ScriptsTest");
    }

    private static void script(String history, int n, long script, int due) {
        RangeGraves x = Check.loaded(history);
        String before = Check.everything(x);
        Check.same(history + " runScript " + n + " " + script, x.runScript(n, script), due);
        Check.sameText("runScript changes nothing", Check.everything(x), before);
        Check.noState("runScript is no action", () -> x.undo());
    }

    private static void promise26WrongArguments() {
        RangeGraves x = new RangeGraves();
        for (int n : new int[] {0, 4, -1, Integer.MIN_VALUE, Integer.MAX_VALUE}) {
            Check.noArgument("runScript " + n, () -> x.runScript(n, 50000));
        }
        for (int n = 1; n <= 3; n++) {
            int many = n;
            Check.noArgument("runScript of -1", () -> x.runScript(many, -1));
            Check.noArgument("runScript of the least", () -> x.runScript(many, Long.MIN_VALUE));
            Check.noArgument("runScript of the most", () -> x.runScript(many, Long.MAX_VALUE));
        }
        Check.noArgument("six digits", () -> x.runScript(1, 100000));
        Check.noArgument("eleven digits", () -> x.runScript(2, 10000000000L));
        Check.noArgument("sixteen digits", () -> x.runScript(3, 1000000000000000L));
        Check.same("five digits", x.runScript(1, 99999), 0);
        Check.same("ten digits", x.runScript(2, 9999999999L), 0);
        Check.same("fifteen digits", x.runScript(3, 999999999999999L), 0);
    }

    private static void promise26Zeros() {
        script(HISTORY, 1, 0, 0);
        script(HISTORY, 1, 1, 0);
        script(HISTORY, 1, 9999, 0);
        script(HISTORY, 2, 50000, 0);
        script(HISTORY, 3, 5000050000L, 0);
        script(HISTORY, 2, 5000000000L, 1);
        script(HISTORY, 3, 100015000000000L, 2);
    }

    private static void promise26PutAndBury() {
        script("G", 1, 10001, NONE);
        script("G", 1, 19999, NONE);
        script("G", 1, 10500, 0);
        script("G", 2, 1050770507L, NONE);
        script("G", 2, 1050770508L, 1);
        script("G", 1, 20000, NONE);
        script("G", 1, 20099, NONE);
        script("G", 1, 29900, 0);
        script("G", 1, 20504, 0);
        script("G", 3, 105072040670500L, NONE);
        script("G", 3, 105072060770507L, NONE);
        StringBuilder full = new StringBuilder("G");
        for (int i = 0; i < 19; i++) {
            full.append("p0000").append(1 + i % 9);
        }
        RangeGraves x = Check.loaded(full.toString());
        for (int i = 19; i < 47; i++) {
            x.put(1, 1);
        }
        Check.same("the last write of 48", x.runScript(2, 1000180048L), NONE);
        Check.same("a write too much", x.runScript(2, 1000120000L), 1);
        Check.same("an entry too much", x.runScript(3, 100012000010001L), 1);
    }

    private static void promise26FlushAndMerge() {
        script("G", 1, 30000, 0);
        script("Gp10005", 1, 30000, NONE);
        script("Gp10005", 2, 3000030000L, 1);
        script("Gp10005", 1, 30001, 0);
        script("Gp10005", 1, 30010, 0);
        script("Gp10005", 1, 30100, 0);
        script("Gp10005", 1, 31000, 0);
        script("Gp01001fp02001fp03001fp04001fp05001fp06001", 1, 30000, 0);
        script("Gp01001fp02001fp03001fp04001fp05001fp06001", 2, 4000030000L, NONE);
        script("Gp01001fp02001fp03001fp04001fp05001fp06001", 1, 43000, NONE);
        script("Gp01001fp02001fp03001fp04001fp05001fp06001", 1, 44000, 0);
        script("Gp01001fp02001fp03001fp04001fp05001fp06001", 1, 45000, 0);
        script("Gp01001fp02001fp03001fp04001fp05001fp06001", 1, 49000, 0);
        script("Gp01001fp01002f", 2, 4000080001L, NONE);
        script("Gp01001fp01002f", 2, 4000041000L, 1);
        script("Gp01001fp01002f", 1, 40001, 0);
        script("Gp01001fp01002f", 1, 40010, 0);
        script("Gp01001fp01002f", 1, 40100, 0);
        script("Gp01001fp02002", 3, 300004000040000L, 2);
    }

    private static void promise26OpenAndClose() {
        script("G", 1, 50000, NONE);
        script("G", 2, 5000050000L, NONE);
        script("G", 3, 500005000050000L, 2);
        script("G", 1, 50001, 0);
        script("G", 1, 51000, 0);
        script("G", 1, 60000, 0);
        script("Go", 1, 60000, NONE);
        script("Go", 1, 61000, 0);
        script("Goo", 1, 61000, NONE);
        script("Goo", 1, 62000, 0);
        script("Goo", 1, 69000, 0);
        script("Goo", 1, 60001, 0);
        script("Goo", 1, 60100, 0);
        script("Goo", 3, 600006000060000L, 2);
        script("Goo", 2, 6100050000L, NONE);
    }

    private static void promise26Tests() {
        script("Gp10005p20500", 1, 71005, NONE);
        script("Gp10005p20500", 1, 71006, 0);
        script("Gp10005p20500", 1, 71000, 0);
        script("Gp10005p20500", 1, 71100, NONE);
        script("Gp10005p20500", 1, 72050, 0);
        script("Gp10005p20500", 1, 72000, 0);
        script("Gp10005ox1010", 1, 71000, NONE);
        script("Gp10005ox1010", 1, 71005, 0);
        script("Gp99099", 1, 79999, NONE);
        script("Gp10005p20500", 1, 80002, NONE);
        script("Gp10005p20500", 1, 80001, 0);
        script("Gp10005p20500f", 1, 80099, NONE);
        script("Gp10005p20500f", 1, 80001, 0);
        script("Gp10005p20500", 1, 80102, 0);
        script("Gp10005p20500", 1, 81002, 0);
        script("G", 1, 80000, NONE);
        script("Gp10005ox1010", 1, 90100, NONE);
        script("Gp10005ox1010", 1, 90110, 0);
        script("Gp10005ox1010", 1, 90101, 0);
        script("Gp10005ox1010", 1, 91100, 0);
        script("Gp10005ox1010o", 1, 91100, 0);
        script("Gp10005ox1010p11500o", 1, 91110, NONE);
        script("Gp10005ox1010p11500o", 1, 92110, 0);
        script("Gp10005ox1010p11500o", 1, 99110, 0);
        script("Gp10005", 1, 90100, 0);
        script("Gp99005o", 1, 90990, NONE);
    }

    private static void promise26OrderAndCopy() {
        script(HISTORY, 3, 110112101071000L, NONE);
        script(HISTORY, 3, 710057100671005L, 1);
        script(HISTORY, 3, 710067100671006L, 0);
        script(HISTORY, 3, 710057100571006L, 2);
        script(HISTORY, 2, 7100571005L, NONE);
        // A command that fails ends the script: the others are not looked at.
        script(HISTORY, 3, 10005L, 0);
        // The eye of the copy goes on seeing what was there.
        script(HISTORY, 3, 210107100090100L, NONE);
        RangeGraves x = Check.loaded(HISTORY);
        Check.same("runScript", x.runScript(2, 1050780004L), NONE);
        Check.same("and again", x.runScript(2, 1050780004L), NONE);
    }

    private static void promise27WrongArguments() {
        RangeGraves x = new RangeGraves();
        for (int m : new int[] {0, 61, -1, Integer.MIN_VALUE, Integer.MAX_VALUE}) {
            Check.noArgument("simulate " + m, () -> x.simulate(1, m));
        }
    }

    /** Does the turns by the methods of the face; what throws is left out. */
    private static int played(RangeGraves x, long seed, int m) {
        long state = seed;
        for (int turn = 0; turn < m; turn++) {
            state = state * 6364136223846793005L + 1442695040888963407L;
            int r = (int) (state >>> 33);
            int q = r / 8;
            int key = q % 100;
            switch (r % 8) {
                case 4: Check.told(() -> x.bury(key, Math.min(99, key + q / 128 % 20))); break;
                case 5: Check.told(() -> x.flush()); break;
                case 6: Check.told(() -> x.merge(q % 5)); break;
                case 7: Check.told(() -> x.about(3) < 2 ? x.open() : x.close(q % 2)); break;
                default: Check.told(() -> x.put(key, 1 + q / 128 % 999)); break;
            }
        }
        return 1000 * x.about(6) + x.about(4);
    }

    private static void promise27Simulate() {
        for (int m : new int[] {1, 2, 3, 5, 10, 30, 59, 60}) {
            for (long seed = -40; seed < 40; seed++) {
                Check.same("simulate " + seed + " " + m, new RangeGraves().simulate(seed, m),
                        played(new RangeGraves(), seed, m));
                Check.same("simulate " + seed + " " + m, Check.loaded(HISTORY).simulate(seed, m),
                        played(Check.loaded(HISTORY), seed, m));
            }
        }
        for (long seed : new long[] {Long.MIN_VALUE, Long.MAX_VALUE, 1L << 33, -1L << 33}) {
            Check.same("simulate " + seed, new RangeGraves().simulate(seed, 60),
                    played(new RangeGraves(), seed, 60));
        }
        // x = 1442695040888963407: r = 167951807 is 7 of 8, and an eye sees nothing.
        Check.same("simulate 0 1", new RangeGraves().simulate(0, 1), 0);
    }

    private static void promise27IsOnACopy() {
        RangeGraves x = Check.loaded(HISTORY);
        String before = Check.everything(x);
        x.put(1, 1);
        for (int seed = 0; seed < 20; seed++) {
            int first = x.simulate(seed, 60);
            Check.same("simulate again", x.simulate(seed, 60), first);
        }
        Check.same("undo", x.undo(), 0);
        Check.sameText("nothing is different", Check.everything(x), before);
    }
}
