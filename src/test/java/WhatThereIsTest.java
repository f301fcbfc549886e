/** Promises 6 to 10, what there is, a sentence each. */
public final class WhatThereIsTest {
    private static final int NONE = RangeGraves.NONE;
    private static final int[] FAR = {Integer.MIN_VALUE, Integer.MAX_VALUE};
    // A run with a cut grave, an older one with entries, one of which the eye alone sees, and memory.
    private static final String HISTORY = "Gp10005p20006p30007fx0020ox1011fp20999x3599p98001";

    private static Document document;

    public static void main(String[] arguments) throws Exception {
        document = Document.of(arguments);
        promise06();
        promise06LatestWrite();
        promise06Writes();
        promise06SeenNow();
        promise06Fewer();
        promise06FewerIsOfTheState();
        promise06WhatOutOfRange();
        promise07();
        promise07Keys();
        promise07Eyes();
        promise07Value();
        promise07NoSuchKey();
        promise07NoSuchEye();
        promise08();
        promise08Places();
        promise08NumbersOfNoWrites();
        promise08Keys();
        promise08NoSuchRun();
        promise08WhatOutOfRange();
        promise09();
        promise09Places();
        promise09Which();
        promise09Numbers();
        promise09NotSoMany();
        promise09NoSuchRun();
        promise09Arguments();
        promise10();
        promise10Eyes();
        promise10NoSuchEye();
        document.allSaid(6, 10);
        Check.end("WhatThereIsTest");
    }

    // ---- promise 6: about

    private static void abouts(String history, int... due) {
        RangeGraves x = Check.loaded(history);
        for (int what = 0; what < due.length; what++) {
            Check.same(history + " about " + what, x.about(what), due[what]);
        }
    }

    private static void promise06() {
        document.says(6, "Returns a number.");
        document.says(6, "Returns that number.");
        abouts(HISTORY, 8, 3, 2, 1, 8, 5, 3, 1007, 0);
        abouts("Gp10005p10006p10007", 3, 3, 0, 0, 3, 3, 1, 7, 0);
        abouts("Gp10005p10006p10007f", 3, 0, 1, 0, 1, 1, 1, 7, 2);
    }

    private static void promise06LatestWrite() {
        document.says(6, "- `what`: 0: the number of the latest write, 0 if there was none;");
        abouts("G", 0);
        abouts("Goof", 0);
        abouts("Gp10005", 1);
        abouts("Gp10005x0099", 2);
        // It counts where it was dropped.
        abouts("Gp10005x0099f", 2);
    }

    private static void promise06Writes() {
        document.says(6, "1: the writes in memory; 2: the runs; 3: the open eyes; 4: the writes in memory and "
                + "in all runs; 5: the entries among them;");
        abouts("Gx0099", 1, 1, 0, 0, 1, 0);
        abouts("Gx0099f", 1, 0, 0, 0, 0, 0);
        abouts("Gp00001p99999oo", 2, 2, 0, 2, 2, 2);
        abouts("Gp50001fx0030x1015f", 3, 0, 2, 0, 4, 1);
        abouts("Gp50001fx0030x1015fp50002p50003ooc0", 5, 2, 2, 1, 6, 3);
        abouts("Gp01001fp02001fp03001fp04001fp05001f", 5, 0, 5, 0, 5, 5);
        RangeGraves x = new RangeGraves();
        for (int i = 0; i < 48; i++) {
            x.put(i, 999);
        }
        Check.same("48 writes in memory", x.about(1), 48);
        x.flush();
        Check.same("no writes in memory", x.about(1), 0);
        Check.same("48 writes", x.about(4), 48);
        Check.same("48 entries", x.about(5), 48);
    }

    private static void promise06SeenNow() {
        document.says(6, "6: the keys for which something is seen now; 7: the sum of the values that are seen "
                + "now;");
        int[][] due = {{0, 0}, {1, 5}, {2, 11}, {1, 6}, {0, 0}, {2, 1000}};
        String[] histories = {"G", "Gp10005", "Gp10005p11006", "Gp10005p10006", "Gp10005x0099", "Gp00001p99999"};
        for (int i = 0; i < histories.length; i++) {
            RangeGraves x = Check.loaded(histories[i]);
            Check.same(histories[i] + " about 6", x.about(6), due[i][0]);
            Check.same(histories[i] + " about 7", x.about(7), due[i][1]);
        }
        // What an eye still sees does not count, nor what was asked before.
        abouts("Gp10005p11006ox1010p11007", 4, 4, 0, 1, 4, 3, 1, 7);
        RangeGraves asked = Check.loaded("Gp10005p11006ox1010p11007");
        Check.same("next of the eye", asked.next(0, 0), 10);
        Check.same("about 7 behind it", asked.about(7), 7);
        Check.same("next of the eye", asked.next(0, 0), 10);
        Check.same("about 6 behind it", asked.about(6), 1);
        RangeGraves all = new RangeGraves();
        for (int i = 0; i < 48; i++) {
            all.put(2 * i, 999);
        }
        Check.same("48 keys are seen", all.about(6), 48);
        Check.same("the sum of them", all.about(7), 48 * 999);
    }

    private static void promise06Fewer() {
        document.says(6, "8: how many writes became fewer by flushing and merging so far (it may be less than 0)");
        String[] histories = {"G", "Gp10005p10006", "Gp10005p10006f", "Gx0099f", "Gp10005p10006fp10007fm0",
            "Gp50001fx0030x1015f", "Gp50001fx0030fx1015f", "Gp50001fx0030fx1015fm0", "Gp50001fx0030x1015fx0099fm0m0"};
        int[] due = {0, 0, 1, 1, 2, -1, 0, -1, 4};
        for (int i = 0; i < histories.length; i++) {
            Check.same(histories[i] + " about 8", Check.loaded(histories[i]).about(8), due[i]);
        }
    }

    private static void promise06FewerIsOfTheState() {
        document.says(6, "by flushing and merging so far");
        RangeGraves x = Check.loaded("Gp10005p10006f");
        Check.same("about 8", x.about(8), 1);
        x.put(1, 1);
        x.put(1, 2);
        x.flush();
        Check.same("about 8 goes on", x.about(8), 2);
        x.undo();
        Check.same("about 8 is taken back", x.about(8), 1);
        x.save(0);
        x.flush();
        x.restore(0);
        Check.same("about 8 is restored", x.about(8), 1);
        x.fewest();
        x.simulate(1, 60);
        x.runScript(1, 30000);
        Check.same("what would be does not count", x.about(8), 1);
    }

    private static void promise06WhatOutOfRange() {
        document.says(6, "Throws `IllegalArgumentException` if what is not 0 to 8");
        RangeGraves x = Check.loaded(HISTORY);
        Check.same("about 8", x.about(8), 0);
        for (int what : new int[] {-1, 9, FAR[0], FAR[1]}) {
            Check.noArgument("about " + what, () -> x.about(what));
        }
    }

    // ---- promise 7: get

    private static void promise07() {
        document.says(7, "Tells what a view sees for a key.");
        RangeGraves x = Check.loaded(HISTORY);
        int[] keys = {0, 10, 11, 20, 30, 35, 97, 98, 99};
        int[] now = {NONE, NONE, NONE, 999, 7, NONE, NONE, 1, NONE};
        int[] then = {NONE, NONE, NONE, NONE, 7, NONE, NONE, NONE, NONE};
        for (int i = 0; i < keys.length; i++) {
            Check.same("get " + keys[i], x.get(keys[i], NONE), now[i]);
            Check.same("get " + keys[i] + " of the eye", x.get(keys[i], 0), then[i]);
        }
    }

    private static void promise07Keys() {
        document.says(7, "- `k`: key");
        RangeGraves x = Check.loaded("Gp00001p01002p98003p99004o");
        int[] keys = {0, 1, 2, 97, 98, 99};
        int[] due = {1, 2, NONE, NONE, 3, 4};
        for (int i = 0; i < keys.length; i++) {
            Check.same("get " + keys[i], x.get(keys[i], NONE), due[i]);
            Check.same("get " + keys[i] + " of the eye", x.get(keys[i], 0), due[i]);
        }
    }

    private static void promise07Eyes() {
        document.says(7, "- `e`: eye, or NONE for now");
        RangeGraves x = Check.loaded("Gop10001p10002ox1010p10003");
        Check.same("now", x.get(10, NONE), 3);
        Check.same("an eye of nothing", x.get(10, 0), NONE);
        Check.same("an eye of the second write", x.get(10, 1), 2);
        x.flush();
        Check.same("the first one behind flush", x.get(10, 0), NONE);
        Check.same("the second one behind flush", x.get(10, 1), 2);
        x.close(0);
        Check.same("the second one is the first one now", x.get(10, 0), 2);
        x.put(10, 4);
        x.open();
        x.flush();
        x.merge(0);
        Check.same("the first one behind merge", x.get(10, 0), 2);
        Check.same("the second one behind merge", x.get(10, 1), 4);
    }

    private static void promise07Value() {
        document.says(7, "Returns the value; NONE if it sees nothing.");
        RangeGraves x = Check.loaded("Gp10001p11999p12005x1212ox1111p13001");
        Check.same("the least value", x.get(10, NONE), 1);
        Check.same("a grave", x.get(11, NONE), NONE);
        Check.same("a grave that the eye does not see", x.get(11, 0), 999);
        Check.same("a grave that the eye sees", x.get(12, 0), NONE);
        Check.same("an entry that the eye does not see", x.get(13, 0), NONE);
        Check.same("no write", x.get(14, NONE), NONE);
    }

    private static void promise07NoSuchKey() {
        document.says(7, "Throws `IndexOutOfBoundsException` if there is no such key");
        RangeGraves x = Check.loaded("Gp00001p99001o");
        for (int k : new int[] {-1, 100, FAR[0], FAR[1]}) {
            Check.noPlace("get " + k, () -> x.get(k, NONE));
            Check.noPlace("get of an eye " + k, () -> x.get(k, 0));
        }
    }

    private static void promise07NoSuchEye() {
        document.says(7, ", or e is neither an open eye nor NONE");
        for (int eyes = 0; eyes <= 2; eyes++) {
            RangeGraves x = Check.loaded("Gp00001oo".substring(0, 7 + eyes));
            for (int e : new int[] {-2, eyes, 2, FAR[0], FAR[1]}) {
                Check.noPlace("get of eye " + e + " of " + eyes, () -> x.get(0, e));
            }
            for (int e = NONE; e < eyes; e++) {
                Check.same("get of eye " + e + " of " + eyes, x.get(0, e), 1);
            }
        }
        RangeGraves x = Check.loaded("Goo");
        x.close(0);
        Check.noPlace("get of eye 1 that is closed", () -> x.get(0, 1));
    }

    // ---- promise 8: run

    private static void runs(RangeGraves x, int i, int... due) {
        for (int what = 0; what < due.length; what++) {
            Check.same("run " + i + " " + what, x.run(i, what), due[what]);
        }
    }

    private static void promise08() {
        document.says(8, "Returns a number of a run, or of memory.");
        document.says(8, "Returns that number.");
        document.says(8, "- `what`: 0: its entries; 1: its graves; 2: its lowest number of a write; 3: the "
                + "highest one");
        RangeGraves x = Check.loaded(HISTORY);
        runs(x, NONE, 2, 1, 6, 8);
        runs(x, 0, 0, 2, 4, 5);
        runs(x, 1, 3, 0, 1, 3);
        runs(Check.loaded("Gp01001fx0099x3070f"), 0, 0, 3, 2, 3);
    }

    private static void promise08Places() {
        document.says(8, "- `i`: run, or NONE");
        RangeGraves x = Check.loaded("Gp01001fp02001fp03001fp04001fp05001fp06001p07001");
        for (int i = 0; i < 5; i++) {
            runs(x, i, 1, 0, 5 - i, 5 - i, 1);
        }
        runs(x, NONE, 2, 0, 6, 7, 2);
    }

    private static void promise08NumbersOfNoWrites() {
        document.says(8, "(2 and 3: NONE if it has no writes);");
        runs(new RangeGraves(), NONE, 0, 0, NONE, NONE, 0);
        runs(Check.loaded("Gp10001f"), NONE, 0, 0, NONE, NONE, 0);
        runs(Check.loaded("Gx1010f"), NONE, 0, 0, NONE, NONE, 0);
        runs(Check.loaded("Gp10001"), NONE, 1, 0, 1, 1, 1);
    }

    private static void promise08Keys() {
        document.says(8, "4: the keys that it concerns");
        String[] histories = {"G", "Gx0099", "Gx0063", "Gx6499", "Gx6364p64001", "Gp10001p10002", "Gp00001p99001",
            "Gx1020x1525", "Gx1020x2130", "Gx1020x2230p21001", "Gx0000x9999", "Gp63001", "Gp64001", "Gx6363x6464"};
        int[] due = {0, 100, 64, 36, 2, 1, 2, 16, 21, 21, 2, 1, 1, 2};
        for (int i = 0; i < histories.length; i++) {
            Check.same(histories[i], Check.loaded(histories[i]).run(NONE, 4), due[i]);
        }
        RangeGraves x = Check.loaded(HISTORY);
        Check.same("memory", x.run(NONE, 4), 66);
        Check.same("run 0", x.run(0, 4), 21);
        Check.same("run 1", x.run(1, 4), 3);
    }

    private static void promise08NoSuchRun() {
        document.says(8, "Throws `IndexOutOfBoundsException` if i is neither a run nor NONE");
        for (int many = 0; many <= 5; many++) {
            RangeGraves x = Check.loaded(Check.FIVE_RUNS.substring(0, 1 + 7 * many));
            for (int i : new int[] {-2, many, 5, FAR[0], FAR[1]}) {
                Check.noPlace("run " + i + " of " + many, () -> x.run(i, 0));
                Check.noPlace("run " + i + " of " + many + ", and no number", () -> x.run(i, 9));
            }
            for (int i = 0; i < many; i++) {
                Check.same("run " + i + " of " + many, x.run(i, 0), 1);
            }
        }
    }

    private static void promise08WhatOutOfRange() {
        document.says(8, "Throws `IllegalArgumentException` if what is not 0 to 4");
        RangeGraves x = Check.loaded(HISTORY);
        for (int what : new int[] {-1, 5, FAR[0], FAR[1]}) {
            Check.noArgument("run 0 " + what, () -> x.run(0, what));
            Check.noArgument("run -1 " + what, () -> x.run(NONE, what));
            Check.noArgument("run -1 of no writes " + what, () -> new RangeGraves().run(NONE, what));
        }
    }

    // ---- promise 9: write

    private static void writes(RangeGraves x, int i, int j, int... due) {
        for (int what = 0; what < due.length; what++) {
            Check.same("write " + i + " " + j + " " + what, x.write(i, j, what), due[what]);
        }
    }

    private static void promise09() {
        document.says(9, "Returns a number of a write.");
        document.says(9, "Returns that number;");
        RangeGraves x = Check.loaded(HISTORY);
        writes(x, NONE, 0, 6, 20, 20, 999);
        writes(x, NONE, 1, 7, 35, 99, 0);
        writes(x, NONE, 2, 8, 98, 98, 1);
        writes(x, 0, 0, 4, 0, 20, 0);
        writes(x, 0, 1, 5, 10, 11, 0);
        writes(x, 1, 0, 1, 10, 10, 5);
    }

    private static void promise09Places() {
        document.says(9, "- `i`: run, or NONE for memory");
        RangeGraves x = Check.loaded("Gp01001fp02002fp03003fp04004fp05005fp06006");
        writes(x, NONE, 0, 6, 6, 6, 6);
        for (int i = 0; i < 5; i++) {
            writes(x, i, 0, 5 - i, 5 - i, 5 - i, 5 - i);
        }
    }

    private static void promise09Which() {
        document.says(9, "- `j`: which write of it, from 0, in their order");
        RangeGraves x = Check.loaded("Gp10005p09006p08007fp50001p40002x3030");
        for (int j = 0; j < 3; j++) {
            writes(x, 0, j, 1 + j, 10 - j, 10 - j, 5 + j);
            writes(x, NONE, j, 4 + j, 50 - 10 * j, 50 - 10 * j, j == 2 ? 0 : j + 1);
        }
        RangeGraves y = new RangeGraves();
        for (int i = 0; i < 48; i++) {
            y.put(99 - i, 1 + i);
        }
        writes(y, NONE, 47, 48, 52, 52, 48);
        writes(y, NONE, 48, NONE, NONE, NONE, NONE);
    }

    private static void promise09Numbers() {
        document.says(9, "- `what`: 0: its number; 1: its key, for a grave the first one; 2: the same for an "
                + "entry, for a grave the last key; 3: its value, 0 for a grave");
        RangeGraves x = Check.loaded("Gp00001p99999x0000x9999x0099x1220");
        writes(x, NONE, 0, 1, 0, 0, 1);
        writes(x, NONE, 1, 2, 99, 99, 999);
        writes(x, NONE, 2, 3, 0, 0, 0);
        writes(x, NONE, 3, 4, 99, 99, 0);
        writes(x, NONE, 4, 5, 0, 99, 0);
        writes(x, NONE, 5, 6, 12, 20, 0);
    }

    private static void promise09NotSoMany() {
        document.says(9, "NONE if there are not so many.");
        RangeGraves x = Check.loaded(HISTORY);
        for (int j : new int[] {3, 4, 48, 1000, FAR[1]}) {
            writes(x, NONE, j, NONE, NONE, NONE, NONE);
            writes(x, 1, j, NONE, NONE, NONE, NONE);
        }
        writes(x, 0, 2, NONE, NONE, NONE, NONE);
        writes(new RangeGraves(), NONE, 0, NONE, NONE, NONE, NONE);
    }

    private static void promise09NoSuchRun() {
        document.says(9, "Throws `IndexOutOfBoundsException` if i is neither a run nor NONE");
        for (int many = 0; many <= 5; many++) {
            RangeGraves x = Check.loaded(Check.FIVE_RUNS.substring(0, 1 + 7 * many));
            for (int i : new int[] {-2, many, 5, FAR[0], FAR[1]}) {
                Check.noPlace("write " + i + " of " + many, () -> x.write(i, 0, 0));
                Check.noPlace("write " + i + " of " + many + ", and no write", () -> x.write(i, -1, 0));
                Check.noPlace("write " + i + " of " + many + ", and no number", () -> x.write(i, 0, 4));
            }
        }
    }

    private static void promise09Arguments() {
        document.says(9, "Throws `IllegalArgumentException` if j is negative, or what is not 0 to 3");
        RangeGraves x = Check.loaded(HISTORY);
        for (int place = NONE; place < 2; place++) {
            int i = place;
            for (int j : new int[] {-1, FAR[0]}) {
                Check.noArgument("write " + i + " " + j, () -> x.write(i, j, 0));
            }
            for (int what : new int[] {-1, 4, FAR[0], FAR[1]}) {
                Check.noArgument("write " + i + " 0 " + what, () -> x.write(i, 0, what));
                Check.noArgument("write " + i + " 77 " + what, () -> x.write(i, 77, what));
            }
        }
    }

    // ---- promise 10: eye

    private static void promise10() {
        document.says(10, "Returns the number of an eye.");
        document.says(10, "Returns it.");
        RangeGraves x = Check.loaded("Gop10001x1010o");
        Check.same("an eye ahead of all writes", x.eye(0), 0);
        Check.same("an eye behind two writes", x.eye(1), 2);
        x.put(1, 3);
        x.flush();
        Check.same("it stays behind flush", x.eye(1), 2);
        x.close(1);
        x.open();
        Check.same("a new eye", x.eye(1), 3);
    }

    private static void promise10Eyes() {
        document.says(10, "- `e`: eye");
        RangeGraves x = Check.loaded("Gop10001o");
        x.close(0);
        Check.same("eye 0 is what eye 1 was", x.eye(0), 1);
        x.undo();
        Check.same("and not any more", x.eye(0), 0);
    }

    private static void promise10NoSuchEye() {
        document.says(10, "Throws `IndexOutOfBoundsException` if no such eye is open");
        for (int eyes = 0; eyes <= 2; eyes++) {
            RangeGraves x = Check.loaded("Gp00001oo".substring(0, 7 + eyes));
            for (int e : new int[] {NONE, -2, eyes, 2, FAR[0], FAR[1]}) {
                Check.noPlace("eye " + e + " of " + eyes, () -> x.eye(e));
            }
            for (int e = 0; e < eyes; e++) {
                Check.same("eye " + e + " of " + eyes, x.eye(e), 1);
            }
        }
        RangeGraves x = Check.loaded("Goo");
        x.close(1);
        Check.noPlace("eye 1 that is closed", () -> x.eye(1));
    }
}
