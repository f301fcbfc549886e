/** Promises 26 and 27, scripts and simulations, a sentence each. */
public final class ScriptsTest {
    private static final int NONE = RangeGraves.NONE;
    private static final String HISTORY = "Gp10005p20500fp30007fo";
    private static final String SIX = Check.FIVE_RUNS + "p06001";
    private static final long FACTOR = 6364136223846793005L;
    private static final long SUMMAND = 1442695040888963407L;

    private static Document document;

    public static void main(String[] arguments) throws Exception {
        document = Document.of(arguments);
        promise26();
        promise26Order();
        promise26ZerosBefore();
        promise26Put();
        promise26Bury();
        promise26Flush();
        promise26Merge();
        promise26Open();
        promise26Close();
        promise26Seen();
        promise26AtMost();
        promise26SeenByAnEye();
        promise26Throws();
        promise26NoRunOrEye();
        promise26OtherGroups();
        promise26OtherDigits();
        promise26Numbers();
        promise26Answer();
        promise26NOutOfRange();
        promise26ScriptOutOfRange();
        promise27();
        promise27Overflow();
        promise27Put();
        promise27Bury();
        promise27Flush();
        promise27Merge();
        promise27OpenAndClose();
        promise27LeftOut();
        promise27Turns();
        promise27Answer();
        promise27MOutOfRange();
        document.allSaid(26, 27);
        Check.end("ScriptsTest");
    }

    // ---- promise 26: runScript

    private static void script(String history, int n, long script, int due) {
        Check.same(history + " runScript " + n + " " + script, Check.loaded(history).runScript(n, script), due);
    }

    /** A script of a single command, which fails or succeeds. */
    private static void fails(String history, int group) {
        script(history, 1, group, 0);
    }

    private static void succeeds(String history, int group) {
        script(history, 1, group, NONE);
    }

    private static void promise26() {
        document.says(26, "Runs a script on a copy of the state.");
        RangeGraves x = Check.loaded(HISTORY);
        x.put(1, 1);
        String before = Check.everything(x);
        Check.same("runScript", x.runScript(3, 105073000080005L), NONE);
        Check.sameText("nothing is different", Check.everything(x), before);
        Check.same("and again", x.runScript(3, 105073000080005L), NONE);
        Check.same("a script that fails", x.runScript(3, 200996000099999L), 2);
        Check.sameText("nothing is different", Check.everything(x), before);
        Check.same("the script before is of no account", x.runScript(2, 7100580004L), NONE);
        Check.same("it is no action", x.undo(), 0);
        Check.noState("nor are its commands", () -> x.undo());
    }

    private static void promise26Order() {
        document.says(26, "A script has 1 to 3 commands; each is a group of five decimal digits d1 to d5, and "
                + "the first command is the highest group of the number");
        script(HISTORY, 3, 110112101071000L, NONE);
        script(HISTORY, 3, 710057100671005L, 1);
        script(HISTORY, 3, 710067100671006L, 0);
        script(HISTORY, 3, 710057100571006L, 2);
        script(HISTORY, 2, 7100571005L, NONE);
        script(HISTORY, 2, 7100571006L, 1);
        script(HISTORY, 2, 7100671005L, 0);
        script("G", 2, 1050770507L, NONE);
        script("G", 2, 7050710507L, 0);
        // The eye of the copy goes on seeing what was there.
        script("Gp10005", 3, 500002101090100L, NONE);
        script("Gp10005", 3, 210105000090100L, 2);
    }

    private static void promise26ZerosBefore() {
        document.says(26, "(with zeros before it, if it has fewer digits).");
        script("Gp10005", 1, 0, 0);
        script("Gp10005", 1, 1, 0);
        script("Gp10005", 1, 9999, 0);
        script("Gp10005", 2, 71005, 0);
        script("Gp10005", 3, 7100571005L, 0);
        script("Gp10005", 2, 7100500000L, 1);
        script("Gp10005", 3, 710057100500000L, 2);
    }

    private static void promise26Put() {
        document.says(26, "1 k k v v: put(kk, vv).");
        succeeds("G", 10001);
        succeeds("G", 19999);
        fails("G", 10000);
        fails("G", 10500);
        script("G", 2, 1050770507L, NONE);
        script("G", 2, 1050770508L, 1);
        script("G", 2, 1990179901L, NONE);
        script("Gp05009", 2, 1050770507L, NONE);
    }

    private static void promise26Bury() {
        document.says(26, "2 f f t t: bury(ff, tt).");
        succeeds("G", 20000);
        succeeds("G", 29999);
        succeeds("G", 20099);
        fails("G", 29900);
        fails("G", 20100);
        script("Gp03001p04001p06001p07001", 2, 2040670301L, NONE);
        script("Gp03001p04001p06001p07001", 2, 2040670400L, NONE);
        script("Gp03001p04001p06001p07001", 2, 2040670600L, NONE);
        script("Gp03001p04001p06001p07001", 2, 2040670701L, NONE);
    }

    private static void promise26Flush() {
        document.says(26, "3 0 0 0 0: flush().");
        fails("G", 30000);
        succeeds("Gp10005", 30000);
        script("Gp10005p10006", 2, 3000080001L, NONE);
        script("Gp10005p10006", 2, 3000080000L, 1);
        script("Gp10005", 2, 3000030000L, 1);
        fails(SIX, 30000);
        script(SIX, 2, 4000030000L, NONE);
    }

    private static void promise26Merge() {
        document.says(26, "4 i 0 0 0: merge(i).");
        for (int i = 0; i < 4; i++) {
            succeeds(SIX, 40000 + 1000 * i);
        }
        fails(SIX, 44000);
        script("Gp01001fp01002f", 2, 4000080001L, NONE);
        script("Gp01001fp01002fp02002f", 2, 4000080002L, 1);
        script("Gp01001fp01002fp02002f", 2, 4100080002L, NONE);
        script("Gp01001fp01002f", 2, 4000041000L, 1);
        script("Gp01001fp02002", 3, 300004000040000L, 2);
    }

    private static void promise26Open() {
        document.says(26, "5 0 0 0 0: open().");
        succeeds("G", 50000);
        succeeds("Go", 50000);
        fails("Goo", 50000);
        script("G", 3, 500005000050000L, 2);
        script("Gp10005", 3, 500001100690100L, NONE);
    }

    private static void promise26Close() {
        document.says(26, "6 e 0 0 0: close(e).");
        fails("G", 60000);
        succeeds("Go", 60000);
        fails("Go", 61000);
        succeeds("Goo", 60000);
        succeeds("Goo", 61000);
        script("Goo", 3, 600006000060000L, 2);
        script("Goo", 2, 6100050000L, NONE);
        script("Gop10005o", 2, 6000090100L, NONE);
        script("Gop10005o", 2, 6100090100L, 1);
    }

    private static void promise26Seen() {
        document.says(26, "7 k k v v: succeeds if vv is seen for kk now (00: nothing).");
        String history = "Gp10005p20500p21105p99099p00001";
        succeeds(history, 71005);
        fails(history, 71006);
        fails(history, 71000);
        succeeds(history, 71100);
        fails(history, 71101);
        // A value of three digits is neither its last two digits nor nothing.
        fails(history, 72000);
        fails(history, 72050);
        fails(history, 72105);
        succeeds(history, 79999);
        succeeds(history, 70001);
        // Now, not as an eye.
        succeeds("Gp10005ox1010", 71000);
        fails("Gp10005ox1010", 71005);
    }

    private static void promise26AtMost() {
        document.says(26, "8 0 0 n n: succeeds if there are at most nn writes in memory and in all runs.");
        succeeds("G", 80000);
        fails("Gp10005", 80000);
        succeeds("Gp10005", 80001);
        fails("Gp10005fp20001", 80001);
        succeeds("Gp10005fp20001", 80002);
        succeeds("Gp10005fp20001", 80003);
        succeeds("Gp10005fx2020", 80002);
        RangeGraves x = new RangeGraves();
        for (int i = 0; i < 48; i++) {
            x.put(1, 1);
        }
        Check.same("at most 47", x.runScript(1, 80047), 0);
        Check.same("at most 48", x.runScript(1, 80048), NONE);
        Check.same("at most 99", x.runScript(1, 80099), NONE);
    }

    private static void promise26SeenByAnEye() {
        document.says(26, "9 e k k 0: succeeds if the eye e sees something for kk.");
        String history = "Gp10005p99005ox1010p11500o";
        succeeds(history, 90100);
        succeeds(history, 90990);
        fails(history, 90110);
        fails(history, 90120);
        fails(history, 91100);
        succeeds(history, 91110);
        succeeds(history, 91990);
        // An entry behind the eye, and one that now alone is seen.
        fails("Gop10005", 90100);
        succeeds("Gp00001o", 90000);
    }

    private static void promise26Throws() {
        document.says(26, "The commands 1 to 6 fail if the method would throw an exception;");
        RangeGraves x = new RangeGraves();
        for (int i = 0; i < 47; i++) {
            x.put(1, 1);
        }
        Check.same("the last write of 48", x.runScript(2, 1000180048L), NONE);
        Check.same("a grave too much", x.runScript(2, 1000120000L), 1);
        Check.same("an entry too much", x.runScript(2, 2000010001L), 1);
        fails("G", 10500);
        fails("G", 20504);
        fails("G", 30000);
        fails("Gp10005f", 40000);
        fails("Goo", 50000);
        fails("G", 60000);
        RangeGraves y = Check.cutting(23, false);
        Check.same("flush to 48 writes", y.runScript(2, 3000080048L), NONE);
        Check.same("flush to 49 writes", y.runScript(2, 1980130000L), 1);
        RangeGraves z = Check.cutting(23, true);
        Check.same("merge to 48 writes", z.runScript(3, 300004000080048L), NONE);
        Check.same("merge to 49 writes", z.runScript(3, 300001980140000L), 2);
    }

    private static void promise26NoRunOrEye() {
        document.says(26, "commands with runs or eyes that do not exist fail,");
        for (int i = 5; i <= 9; i++) {
            fails(SIX, 40000 + 1000 * i);
        }
        fails("G", 40000);
        fails("Gp01001f", 41000);
        for (int e = 2; e <= 9; e++) {
            fails("Gp10005oo", 60000 + 1000 * e);
            fails("Gp10005oo", 90100 + 1000 * e);
        }
        fails("Gp10005", 60000);
        fails("Gp10005", 90100);
        fails("Gp10005o", 61000);
        fails("Gp10005o", 91100);
    }

    private static void promise26OtherGroups() {
        document.says(26, "and so does any other group");
        for (int group : new int[] {0, 1, 5, 99, 1001, 5000, 9999}) {
            fails(HISTORY, group);
        }
        fails(HISTORY, 99999);
        fails("Gp10005", 7);
    }

    private static void promise26OtherDigits() {
        document.says(26, "(also one with another digit where a 0 is written).");
        for (int other : new int[] {1, 9, 10, 90, 100, 900, 1000, 9000, 1111}) {
            fails("Gp10005", 30000 + other);
            fails("G", 50000 + other);
        }
        for (int other : new int[] {1, 9, 10, 90, 100, 900, 111}) {
            fails("Gp01001fp01002fp03001f", 40000 + other);
            fails("Gp01001fp01002fp03001f", 41000 + other);
            fails("Goo", 60000 + other);
            fails("Goo", 61000 + other);
        }
        for (int other : new int[] {1000, 100, 1100, 9000, 900}) {
            fails("G", 80099 + other);
        }
        for (int other = 1; other <= 9; other++) {
            fails("Gp10005o", 90100 + other);
        }
    }

    private static void promise26Numbers() {
        document.says(26, "kk, vv, ff, tt and nn are decimal numbers.");
        script("G", 2, 1123471234L, NONE);
        script("G", 2, 1123471243L, 1);
        script("Gp12005p34006p56007", 2, 2123471200L, NONE);
        script("Gp12005p34006p56007", 2, 2123473400L, NONE);
        script("Gp12005p34006p56007", 2, 2123475607L, NONE);
        succeeds("Gp01001p02001p03001p04001p05001p06001p07001p08001p09001p10001p11001", 80011);
        fails("Gp01001p02001p03001p04001p05001p06001p07001p08001p09001p10001p11001", 80010);
    }

    private static void promise26Answer() {
        document.says(26, "Returns the index, from 0, of the first command that fails; NONE if all succeed.");
        script("G", 3, 500005000060000L, NONE);
        script("G", 3, 600005000050000L, 0);
        script("G", 3, 500006000060000L, 2);
        script("G", 3, 500006100060000L, 1);
        script("G", 3, 600006000060000L, 0);
        script("G", 1, 50000, NONE);
        script("G", 1, 60000, 0);
    }

    private static void promise26NOutOfRange() {
        document.says(26, "- `n`: number of commands, 1 to 3");
        document.says(26, "Throws `IllegalArgumentException` if n is out of range,");
        RangeGraves x = new RangeGraves();
        for (int n : new int[] {0, 4, -1, Integer.MIN_VALUE, Integer.MAX_VALUE}) {
            Check.noArgument("runScript " + n, () -> x.runScript(n, 50000));
            Check.noArgument("runScript of 0 " + n, () -> x.runScript(n, 0));
        }
        Check.same("runScript 1", x.runScript(1, 50000), NONE);
        Check.same("runScript 3", x.runScript(3, 500005000060000L), NONE);
    }

    private static void promise26ScriptOutOfRange() {
        document.says(26, "- `script`: the commands, a number of at most 5 * n digits (0 or more)");
        document.says(26, "or if script is negative or has more than 5 * n digits");
        RangeGraves x = new RangeGraves();
        long limit = 1;
        for (int n = 1; n <= 3; n++) {
            int many = n;
            limit *= 100000;
            long above = limit;
            Check.noArgument("one digit too much", () -> x.runScript(many, above));
            Check.noArgument("one more", () -> x.runScript(many, above + 50000));
            Check.noArgument("-1", () -> x.runScript(many, -1));
            Check.noArgument("a negative script", () -> x.runScript(many, -50000));
            Check.noArgument("the least", () -> x.runScript(many, Long.MIN_VALUE));
            Check.noArgument("the most", () -> x.runScript(many, Long.MAX_VALUE));
            Check.noArgument("2 to 32 more than 0", () -> x.runScript(many, (1L << 32) * 1000000));
            Check.same("all digits", x.runScript(many, above - 1), 0);
            Check.same("no digits", x.runScript(many, 0), 0);
        }
    }

    // ---- promise 27: simulate

    /** The seed from which x becomes this in the first turn. */
    private static long seedOf(long x) {
        long inverse = FACTOR;
        for (int i = 0; i < 6; i++) {
            inverse *= 2 - FACTOR * inverse;
        }
        return (x - SUMMAND) * inverse;
    }

    /** The seed of which the first turn has this kind, r % 8, and this q. */
    private static long seedOf(int kind, int q) {
        return seedOf(((long) (8 * q + kind)) << 33);
    }

    /** A single turn of this kind with this q answers so many keys and writes. */
    private static void turn(String history, int kind, int q, int keys, int writes) {
        Check.same(history + " turn " + kind + " " + q, Check.loaded(history).simulate(seedOf(kind, q), 1),
                1000 * keys + writes);
    }

    private static void promise27() {
        document.says(27, "Simulates m turns on a copy of the state.");
        for (int seed = 0; seed < 20; seed++) {
            RangeGraves x = Check.loaded(HISTORY);
            x.put(1, 1);
            String before = Check.everything(x);
            int first = x.simulate(seed, 60);
            Check.sameText("nothing is different", Check.everything(x), before);
            Check.same("simulate again", x.simulate(seed, 60), first);
            Check.same("it is no action", x.undo(), 0);
            Check.noState("nor are its turns", () -> x.undo());
        }
    }

    private static void promise27Overflow() {
        document.says(27, "A long x starts as the seed. Each turn first replaces x by x * "
                + "6364136223846793005L + 1442695040888963407L (with long overflow), and r = (int) (x >>> 33) "
                + "is computed. q is r / 8.");
        // x = 1442695040888963407: r = 167951807 is 7 of 8, and an eye sees nothing.
        Check.same("seed 0", Check.loaded("G").simulate(0, 1), 0);
        Check.same("seed 0, an eye is closed", Check.loaded("Gp10001oop10002f").simulate(0, 1), 1002);
        // The sign of x is a digit of r as the others are, and all below r is of no account.
        int most = (1 << 28) - 1;
        turn("Gp55001", 0, most, 1, 2);
        turn("Gp55001", 0, 1 << 27, 2, 2);
        Check.same("the least x of r = 0", Check.loaded("Gp00001").simulate(seedOf(0), 1), 1002);
        Check.same("the most x of r = 0", Check.loaded("Gp00001").simulate(seedOf((1L << 33) - 1), 1), 1002);
        Check.same("the least x of r = 8", Check.loaded("Gp00001").simulate(seedOf(8L << 33), 1), 2002);
        Check.same("x = -1, which opens", Check.loaded("Gp00001").simulate(seedOf(-1), 1), 1001);
        for (long seed : new long[] {Long.MIN_VALUE, Long.MAX_VALUE, -1, 1, 1L << 33, -1L << 33}) {
            for (int m : new int[] {1, 2, 60}) {
                Check.same("simulate " + seed, Check.loaded(HISTORY).simulate(seed, m),
                        played(Check.loaded(HISTORY), seed, m));
            }
        }
    }

    private static void promise27Put() {
        document.says(27, "By r % 8: 0 to 3: put(q % 100, 1 + q / 128 % 999).");
        for (int kind = 0; kind <= 3; kind++) {
            turn("G", kind, 0, 1, 1);
            turn("Gp42001", kind, 42, 1, 2);
            turn("Gp42001", kind, 142, 1, 2);
            turn("Gp42001", kind, 43, 2, 2);
            turn("Gp99001", kind, 99, 1, 2);
            turn("Gp99001", kind, 100, 2, 2);
            // q / 128 is 998, 999 and 1998: the values are 999, 1 and 1.
            turn("G", kind, 128 * 998, 1, 1);
            turn("G", kind, 128 * 999, 1, 1);
            turn("G", kind, 128 * 1998, 1, 1);
        }
    }

    private static void promise27Bury() {
        document.says(27, "4: bury(q % 100, the lesser one of 99 and q % 100 + q / 128 % 20).");
        String history = "Gp10001p11001p12001p13001p95001p96001p98001p99001";
        turn(history, 4, 10, 7, 9);
        turn(history, 4, 14, 8, 9);
        // q / 128 is 75: the row ends 15 keys behind the first one, or at 99.
        turn(history, 4, 9610, 4, 9);
        turn(history, 4, 9699, 7, 9);
        turn(history, 4, 9695, 4, 9);
        turn(history, 4, 9697, 6, 9);
        // q / 128 is 19 and 20: rows of 20 keys and of one.
        turn("Gp18001p19001p20001", 4, 2500, 1, 4);
        turn("Gp60001p61001", 4, 2560, 1, 3);
    }

    private static void promise27Flush() {
        document.says(27, "5: flush().");
        turn("Gp10001p10002p11003", 5, 0, 2, 2);
        turn("Gp10001p10002p11003", 5, 12345, 2, 2);
        turn("Gp10001x0099", 5, 0, 0, 0);
        turn("Gp10001fx1010", 5, 0, 0, 2);
    }

    private static void promise27Merge() {
        document.says(27, "6: merge(q % 5).");
        String history = "Gp01001fp01001fp03001fp04001fp04001f";
        int[] due = {4, 5, 5, 4, 5};
        for (int q = 0; q < 15; q++) {
            turn(history, 6, q, 3, due[q % 5]);
        }
    }

    private static void promise27OpenAndClose() {
        document.says(27, "7: open(), if that is possible, and if not, close(q % 2).");
        // What the eyes are can be told by what a flush drops: each case in two turns.
        String[] histories = {"Gp10001", "Gp10001o", "Gp10001op10002o", "Gp10001op10002o"};
        int[] qs = {0, 1, 0, 1};
        for (int i = 0; i < histories.length; i++) {
            RangeGraves x = Check.loaded(histories[i]);
            x.put(10, 5);
            x.put(10, 6);
            long seed = seedBehind(7, qs[i], 5);
            RangeGraves y = Check.loaded(histories[i]);
            y.put(10, 5);
            y.put(10, 6);
            if (i < 2) {
                y.open();
            } else {
                y.close(qs[i]);
            }
            y.flush();
            Check.same(histories[i] + " turn 7, flush", x.simulate(seed, 2), 1000 + y.about(4));
        }
        turn("Goo", 7, 0, 0, 0);
        turn("Goo", 7, 1, 0, 0);
    }

    /** A seed of which the first turn has this kind and q % 2, and the second one that kind. */
    private static long seedBehind(int kind, int q, int second) {
        for (int low = 0; low < 1000000; low++) {
            long x = ((long) (8 * q + kind) << 33) + low * 4097L;
            if ((x * FACTOR + SUMMAND >>> 33) % 8 == second) {
                return seedOf(x);
            }
        }
        throw new IllegalStateException("there is no such seed");
    }

    private static void promise27LeftOut() {
        document.says(27, "What would throw an exception is left out.");
        turn("G", 5, 0, 0, 0);
        turn("G", 6, 0, 0, 0);
        turn("Gp10001f", 6, 0, 1, 1);
        turn(SIX, 5, 0, 6, 6);
        RangeGraves x = new RangeGraves();
        for (int i = 0; i < 48; i++) {
            x.put(50, 1);
        }
        Check.same("put of write 49", x.simulate(seedOf(0, 0), 1), 1048);
        Check.same("bury of write 49", x.simulate(seedOf(4, 50), 1), 1048);
        x.undo();
        Check.same("put of write 48", x.simulate(seedOf(0, 0), 1), 2048);
        Check.same("bury of write 48", x.simulate(seedOf(4, 50), 1), 48);
    }

    /** Does the turns by the methods of the face; what throws is left out. */
    private static int played(RangeGraves x, long seed, int m) {
        long state = seed;
        for (int turn = 0; turn < m; turn++) {
            state = state * FACTOR + SUMMAND;
            int r = (int) (state >>> 33);
            int q = r / 8;
            int key = q % 100;
            switch (r % 8) {
                case 4: Check.told(() -> x.bury(key, Math.min(99, key + q / 128 % 20))); break;
                case 5: Check.told(() -> x.flush()); break;
                case 6: Check.told(() -> x.merge(q % 5)); break;
                case 7: Check.told(() -> x.about(3) < 2 ? x.open() : x.close(q % 2)); break;
                default: Check.told(() -> x.put(key, 1 + q / 128 % 999)); break;
            }
        }
        return 1000 * x.about(6) + x.about(4);
    }

    private static void promise27Turns() {
        document.says(27, "- `seed`: any long - `m`: number of turns, 1 to 60");
        for (int m : new int[] {1, 2, 3, 5, 10, 30, 59, 60}) {
            for (long seed = -40; seed < 40; seed++) {
                Check.same("simulate " + seed + " " + m, new RangeGraves().simulate(seed, m),
                        played(new RangeGraves(), seed, m));
                Check.same("simulate " + seed + " " + m, Check.loaded(HISTORY).simulate(seed, m),
                        played(Check.loaded(HISTORY), seed, m));
            }
        }
    }

    private static void promise27Answer() {
        document.says(27, "Returns 1000 * (the keys for which something is seen at the end) + (the writes in "
                + "memory and in all runs at the end).");
        turn("G", 7, 0, 0, 0);
        turn("Gp10001p10002p11001", 7, 0, 2, 3);
        turn("Gp10001p10002p11001fx1010", 7, 0, 1, 3);
        RangeGraves x = new RangeGraves();
        for (int i = 0; i < 48; i++) {
            x.put(2 * i, 1);
        }
        Check.same("48 keys and 48 writes", x.simulate(seedOf(7, 0), 1), 48048);
    }

    private static void promise27MOutOfRange() {
        document.says(27, "Throws `IllegalArgumentException` if m is out of range");
        RangeGraves x = new RangeGraves();
        for (int m : new int[] {0, 61, -1, Integer.MIN_VALUE, Integer.MAX_VALUE}) {
            Check.noArgument("simulate " + m, () -> x.simulate(1, m));
        }
        Check.same("simulate 1", x.simulate(0, 1), 0);
        Check.same("simulate 60", x.simulate(0, 60), played(new RangeGraves(), 0, 60));
    }
}
