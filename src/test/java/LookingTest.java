/** Promises 18 to 25, looking, and what would be, a sentence each. */
public final class LookingTest {
    private static final int NONE = RangeGraves.NONE;
    private static final int[] NO_KEYS = {-1, 100, Integer.MIN_VALUE, Integer.MAX_VALUE};

    private static Document document;

    public static void main(String[] arguments) throws Exception {
        document = Document.of(arguments);
        promise18();
        promise18MemoryFirst();
        promise18Answer();
        promise18NoSuchKey();
        promise19();
        promise19Eyes();
        promise19Answer();
        promise19NoSuchKey();
        promise19NoSuchEye();
        promise20();
        promise20Eyes();
        promise20NoSuchKey();
        promise20NoSuchEye();
        promise20NoRow();
        promise21();
        promise21Views();
        promise22();
        promise22Answer();
        promise22NoSuchKey();
        promise23();
        promise23LessThanNothing();
        promise23NoSuchRun();
        promise23WhereMergeThrows();
        promise24();
        promise24OfSeveral();
        promise24ThatArePossible();
        promise25();
        promise25WithoutEyes();
        promise25MemoryIsFlushed();
        promise25RunsAreMerged();
        promise25NothingIsTooMuch();
        document.allSaid(18, 25);
        Check.end("LookingTest");
    }

    /** For each number of eyes, those that are none. */
    private static void noEyes(String call, CallOfEye of) {
        for (int eyes = 0; eyes <= 2; eyes++) {
            RangeGraves x = Check.loaded("Gp00001p99001oo".substring(0, 13 + eyes));
            for (int e : new int[] {-2, eyes, 2, Integer.MIN_VALUE, Integer.MAX_VALUE}) {
                Check.noPlace(call + " of eye " + e + " of " + eyes, () -> of.answer(x, e));
            }
            for (int e = NONE; e < eyes; e++) {
                int open = e;
                Check.sameText(call + " of eye " + e, Check.told(() -> of.answer(x, open)), "2");
            }
        }
    }

    private interface CallOfEye {
        int answer(RangeGraves x, int e);
    }

    // ---- promise 18: looks

    private static void looks(String history, int... due) {
        RangeGraves x = Check.loaded(history);
        for (int i = 0; i < due.length; i++) {
            Check.same(history + " looks " + 10 * i, x.looks(10 * i), due[i]);
        }
    }

    private static void promise18() {
        document.says(18, "Tells in how many places one has to look for a key now:");
        looks("Gp10001fp20002fp30003", 3, 3, 2, 1, 3);
        looks("Gp10001fp20002fx1010", 3, 1, 2, 3);
        looks("Gp10001fx0020fp30001f", 2, 2, 2, 1, 3);
        // Now, not as an eye: the newer place counts.
        looks("Gp10001fop10002", 2, 1, 2);
        RangeGraves x = Check.loaded("Gp99001fp98001p00001");
        Check.same("looks 99", x.looks(99), 2);
        Check.same("looks 0", x.looks(0), 1);
    }

    private static void promise18MemoryFirst() {
        document.says(18, "in memory first, if it has writes, then in one run after the other, up to the "
                + "first one with a write that concerns the key. - `k`: key");
        looks("Gp10001", 1, 1, 1);
        looks("Gp10001f", 1, 1, 1);
        looks("Gp10001fp20002f", 2, 2, 1, 2);
        looks("Gp10001fp20002fp10003", 3, 1, 2, 3);
        // A grave is a write, and the keys at its ends are concerned.
        looks("Gp50001fx1030f", 2, 1, 1, 1, 2, 2);
        looks("Gp10001fx1010f", 2, 1, 2);
        // A key twice: the first place counts.
        looks("Gp10001fp10002fp10003", 3, 1, 3);
    }

    private static void promise18Answer() {
        document.says(18, "Returns how many are looked at; all of them if no write concerns the key.");
        looks("G", 0);
        looks("Gx1010f", 0);
        looks("Gx1010", 1);
        RangeGraves x = Check.loaded(Check.FIVE_RUNS);
        for (int k = 1; k <= 5; k++) {
            Check.same("looks " + k, x.looks(k), 6 - k);
        }
        Check.same("looks 6", x.looks(6), 5);
        x.put(7, 1);
        Check.same("looks 1", x.looks(1), 6);
        Check.same("looks 6", x.looks(6), 6);
        Check.same("looks 7", x.looks(7), 1);
    }

    private static void promise18NoSuchKey() {
        document.says(18, "Throws `IndexOutOfBoundsException` if there is no such key");
        RangeGraves x = Check.loaded("Gx0099");
        for (int k : NO_KEYS) {
            Check.noPlace("looks " + k, () -> x.looks(k));
        }
        Check.same("looks 0", x.looks(0), 1);
        Check.same("looks 99", x.looks(99), 1);
    }

    // ---- promise 19: next

    private static void promise19() {
        document.says(19, "Finds a key. - `k`: key");
        RangeGraves x = Check.loaded("Gp10001p20002p30003p99004fox1020p15005");
        int[] from = {0, 14, 15, 16, 30, 31, 98, 99};
        int[] due = {15, 15, 15, 30, 30, 99, 99, 99};
        for (int i = 0; i < from.length; i++) {
            Check.same("next " + from[i], x.next(from[i], NONE), due[i]);
        }
        Check.same("next 0", Check.loaded("Gp00001").next(0, NONE), 0);
    }

    private static void promise19Eyes() {
        document.says(19, "- `e`: eye, or NONE for now");
        RangeGraves x = Check.loaded("Gp10001p20002ox1010p15005ox0099p90001");
        Check.same("next 0 of eye 0", x.next(0, 0), 10);
        Check.same("next 11 of eye 0", x.next(11, 0), 20);
        Check.same("next 0 of eye 1", x.next(0, 1), 15);
        Check.same("next 16 of eye 1", x.next(16, 1), 20);
        Check.same("next 0 now", x.next(0, NONE), 90);
    }

    private static void promise19Answer() {
        document.says(19, "Returns the lowest key, not less than k, for which the view sees something; NONE "
                + "if there is none.");
        RangeGraves x = Check.loaded("Gp10001p98001ox9898");
        Check.same("next 10", x.next(10, NONE), 10);
        Check.same("next 11", x.next(11, NONE), NONE);
        Check.same("next 99", x.next(99, NONE), NONE);
        Check.same("next 11 of the eye", x.next(11, 0), 98);
        Check.same("next 98 of the eye", x.next(98, 0), 98);
        Check.same("next 99 of the eye", x.next(99, 0), NONE);
        Check.same("next of a new object", new RangeGraves().next(0, NONE), NONE);
    }

    private static void promise19NoSuchKey() {
        document.says(19, "Throws `IndexOutOfBoundsException` if there is no such key");
        RangeGraves x = Check.loaded("Gp00001p99001o");
        for (int k : NO_KEYS) {
            Check.noPlace("next " + k, () -> x.next(k, NONE));
            Check.noPlace("next of the eye " + k, () -> x.next(k, 0));
        }
    }

    private static void promise19NoSuchEye() {
        document.says(19, ", or e is neither an open eye nor NONE");
        noEyes("next", (x, e) -> x.next(1, e) - 97);
    }

    // ---- promise 20: count

    private static void promise20() {
        document.says(20, "Counts keys. - `from`: first key - `to`: last key");
        document.says(20, "Returns for how many of these keys the view sees something.");
        RangeGraves x = Check.loaded("Gp00001p10001p20002p30003p99004fox1020p15005");
        int[][] due = {{0, 99, 4}, {0, 0, 1}, {1, 14, 0}, {1, 15, 1}, {15, 30, 2}, {15, 29, 1}, {16, 30, 1},
            {16, 29, 0}, {10, 20, 1}, {99, 99, 1}, {98, 98, 0}, {98, 99, 1}, {0, 98, 3}, {1, 99, 3}};
        for (int[] d : due) {
            Check.same("count " + d[0] + " " + d[1], x.count(d[0], d[1], NONE), d[2]);
        }
        Check.same("count of a new object", new RangeGraves().count(0, 99, NONE), 0);
        Check.same("a key twice", Check.loaded("Gp10001fp10002p10003").count(0, 99, NONE), 1);
    }

    private static void promise20Eyes() {
        document.says(20, "- `e`: eye, or NONE for now");
        RangeGraves x = Check.loaded("Gp10001p20002ox1010p15005p16005ox0099p90001");
        Check.same("count of eye 0", x.count(10, 20, 0), 2);
        Check.same("count of eye 1", x.count(10, 20, 1), 3);
        Check.same("count now", x.count(10, 20, NONE), 0);
        Check.same("count of all now", x.count(0, 99, NONE), 1);
    }

    private static void promise20NoSuchKey() {
        document.says(20, "Throws `IndexOutOfBoundsException` if there is no such key");
        RangeGraves x = Check.loaded("Gp00001p99001");
        for (int k : NO_KEYS) {
            Check.noPlace("count from " + k + " to 0", () -> x.count(k, 0, NONE));
            Check.noPlace("count from " + k + " to 99", () -> x.count(k, 99, NONE));
            Check.noPlace("count from 0 to " + k, () -> x.count(0, k, NONE));
            Check.noPlace("count from 99 to " + k, () -> x.count(99, k, NONE));
        }
    }

    private static void promise20NoSuchEye() {
        document.says(20, ", or e is neither an open eye nor NONE");
        noEyes("count", (x, e) -> x.count(0, 99, e));
        Check.noPlace("count of no row of no eye", () -> new RangeGraves().count(9, 0, 0));
    }

    private static void promise20NoRow() {
        document.says(20, "Throws `IllegalArgumentException` if to is less than from");
        RangeGraves x = Check.loaded("Gp00001p99001o");
        for (int e = NONE; e <= 0; e++) {
            int view = e;
            Check.noArgument("count 1 0", () -> x.count(1, 0, view));
            Check.noArgument("count 99 98", () -> x.count(99, 98, view));
            Check.noArgument("count 99 0", () -> x.count(99, 0, view));
        }
    }

    // ---- promise 21: hidden

    private static void hidden(String history, int due) {
        Check.same(history + " hidden", Check.loaded(history).hidden(), due);
    }

    private static void promise21() {
        document.says(21, "Counts what is hidden from all.");
        document.says(21, "Returns how many entries, in memory and in all runs,");
        hidden("G", 0);
        hidden("Gp10001", 0);
        hidden("Gp10001p10002p10003", 2);
        hidden("Gp10001x0020", 1);
        hidden("Gp10001x1120", 0);
        hidden("Gx0020p10001", 0);
        hidden("Gp10001fp10002fp10003", 2);
        hidden("Gp10001fx0099", 1);
        hidden("Gp10001fp20001fp10002p20002p20003f", 2);
        // Graves do not count.
        hidden("Gx0099x0099x0099", 0);
        RangeGraves x = new RangeGraves();
        for (int i = 0; i < 48; i++) {
            x.put(99, 1);
        }
        Check.same("hidden of 48", x.hidden(), 47);
    }

    private static void promise21Views() {
        document.says(21, "no view sees.");
        hidden("Gp10001op10002", 0);
        hidden("Gp10001p10002op10003", 1);
        hidden("Gp10001op10002p10003op10004", 1);
        hidden("Gp10001op10002p10003op10004c0", 2);
        hidden("Gp10001op10002p10003op10004c1", 2);
        hidden("Gp10001op10002p10003op10004c0c0", 3);
        hidden("Gop10001p10002", 1);
        hidden("Gp10001ox0099", 0);
        hidden("Gp10001ox0099c0", 1);
        // Both eyes and now see the same entry.
        hidden("Gp10001p10002oo", 1);
    }

    // ---- promise 22: grave

    private static void promise22() {
        document.says(22, "Finds the grave over a key. - `k`: key");
        int[] keys = {0, 4, 5, 9, 10, 14, 15, 16, 20, 21, 30, 31, 99};
        int[] due = {NONE, NONE, 2, 2, 3, 3, 4, 3, 3, 2, 2, NONE, NONE};
        RangeGraves x = Check.loaded("Gp50001fx0530fx1020fx1515p15002p05003");
        for (int i = 0; i < keys.length; i++) {
            Check.same("grave " + keys[i], x.grave(keys[i]), due[i]);
        }
        // A newer entry is no grave, and the grave counts where it hides nothing.
        Check.same("grave under an entry", Check.loaded("Gx1010p10001").grave(10), 1);
    }

    private static void promise22Answer() {
        document.says(22, "Returns the number of the newest grave that concerns it; NONE if there is none.");
        Check.same("grave of a new object", new RangeGraves().grave(0), NONE);
        Check.same("grave of entries alone", Check.loaded("Gp10001fp10002").grave(10), NONE);
        Check.same("grave 0", Check.loaded("Gx0000").grave(0), 1);
        Check.same("grave 1", Check.loaded("Gx0000").grave(1), NONE);
        Check.same("grave 99", Check.loaded("Gx9999").grave(99), 1);
        Check.same("grave 98", Check.loaded("Gx9999").grave(98), NONE);
        Check.same("the newest of three", Check.loaded("Gx0099x0099x0099").grave(50), 3);
        Check.same("an eye is of no account", Check.loaded("Gx0099ox0099").grave(50), 2);
        // No run is older than the first one: of its grave nothing is left.
        Check.same("a grave that went", Check.loaded("Gp10001x0530f").grave(20), NONE);
        Check.same("a grave that was cut", Check.loaded("Gp50001fx0030x1015f").grave(12), 3);
        Check.same("what is left of it", Check.loaded("Gp50001fx0030x1015f").grave(16), 2);
    }

    private static void promise22NoSuchKey() {
        document.says(22, "Throws `IndexOutOfBoundsException` if there is no such key");
        RangeGraves x = Check.loaded("Gx0099");
        for (int k : NO_KEYS) {
            Check.noPlace("grave " + k, () -> x.grave(k));
        }
    }

    // ---- promise 23: saves

    private static void promise23() {
        document.says(23, "Tells what a merge would save. - `i`: run");
        RangeGraves x = Check.loaded("Gp10001fp10002fp20003fx1010f");
        int[] due = {0, 0, 1};
        for (int i = 0; i < 3; i++) {
            Check.same("saves " + i, x.saves(i), due[i]);
        }
        Check.same("saves of all", Check.loaded("Gp10001fx0099f").saves(0), 2);
        Check.same("saves with an eye", Check.loaded("Gp10001fop10002f").saves(0), 0);
        Check.same("saves of runs alone", Check.loaded("Gp10001fp10002fp10003").saves(0), 1);
    }

    private static void promise23LessThanNothing() {
        document.says(23, "Returns how many writes would become fewer behind merge(i) (it may be less than 0).");
        for (int graves = 1; graves <= 23; graves++) {
            RangeGraves x = Check.cuttingRuns(graves);
            Check.same("saves", x.saves(0), -graves);
            int before = x.about(4);
            x.merge(0);
            Check.same("as merge does", before - x.about(4), -graves);
        }
        Check.same("saves of nothing", Check.loaded("Gp10001fp20001f").saves(0), 0);
    }

    private static void promise23NoSuchRun() {
        document.says(23, "Throws `IndexOutOfBoundsException` if there is no such run");
        for (int many = 0; many <= 5; many++) {
            RangeGraves x = Check.loaded(Check.FIVE_RUNS.substring(0, 1 + 7 * many));
            for (int i : new int[] {NONE, -2, many, 5, Integer.MIN_VALUE, Integer.MAX_VALUE}) {
                Check.noPlace("saves " + i + " of " + many, () -> x.saves(i));
            }
        }
    }

    private static void promise23WhereMergeThrows() {
        document.says(23, "Throws `IllegalStateException` if merge(i) would throw it");
        for (int many = 1; many <= 5; many++) {
            RangeGraves x = Check.loaded(Check.FIVE_RUNS.substring(0, 1 + 7 * many));
            int last = many - 1;
            Check.noState("saves of the last run of " + many, () -> x.saves(last));
        }
        RangeGraves x = Check.cuttingRuns(23);
        Check.same("saves up to 48 writes", x.saves(0), -23);
        x.put(98, 1);
        Check.noState("saves up to 49 writes", () -> x.saves(0));
        Check.noState("saves up to 50 writes", () -> Check.cuttingRuns(24).saves(0));
    }

    // ---- promise 24: best

    private static void best(String history, int due) {
        Check.same(history + " best", Check.loaded(history).best(), due);
    }

    private static void promise24() {
        document.says(24, "Finds the best merge.");
        document.says(24, "Returns the run whose merge, of those that are possible, saves most,");
        best("Gp10001fp10002fp20003f", 1);
        best("Gp10001fp20003fp20002f", 0);
        best("Gp10001p11001fx1011fp20003fp20004fp20005f", 3);
        best("Gp10001p11001fp10003p11003fp20004fp20005f", 2);
        // With an eye between, it saves nothing.
        best("Gp10001fp20001fop20003f", 0);
        best("Gp10001fp10002fop20003fp20004fc0", 0);
        best("Gp10001p11001fp10002p11001fop20003fp20004f", 2);
    }

    private static void promise24OfSeveral() {
        document.says(24, "of several the lowest;");
        best("Gp10001fp20002f", 0);
        best("Gp10001fp20002fp30003f", 0);
        best("Gp10001fp10002fp10003f", 0);
        best("Gp10001fp10002fp20003fp30003fp30004f", 0);
        best("Gp10001fp10002fp10003fp40003fp30004f", 2);
    }

    private static void promise24ThatArePossible() {
        document.says(24, "NONE if none is possible.");
        best("G", NONE);
        best("Gp10001p10002", NONE);
        best("Gp10001f", NONE);
        best("Gp10001fp10002", NONE);
        Check.same("saves of less than nothing", Check.cuttingRuns(3).best(), 1);
        Check.same("a merge that is too much", Check.cuttingRuns(24).best(), 1);
        best("Gx0199fp00001", NONE);
        best("Gp00001p98001ox0199f", NONE);
        // The only merge would be too much: the grave becomes one for each entry that the eye sees.
        RangeGraves only = Check.eyed(25);
        only.flush();
        only.bury(0, 99);
        only.flush();
        Check.noState("saves of the only merge", () -> only.saves(0));
        Check.same("best where the only merge is too much", only.best(), NONE);
        only.close(0);
        Check.same("best where it is possible", only.best(), 0);
        // The only merge cuts a grave that an eye's entries keep, and saves less than nothing.
        RangeGraves x = Check.loaded("Gp10001p11001p12001p13001p14001ofx1014fx1111x1313f");
        x.merge(1);
        Check.same("what the only merge saves", x.saves(0), -2);
        Check.same("it is the best one", x.best(), 0);
    }

    // ---- promise 25: fewest

    private static void fewest(String history, int due) {
        Check.same(history + " fewest", Check.loaded(history).fewest(), due);
    }

    private static void promise25() {
        document.says(25, "Tells how few writes would be left without eyes.");
        fewest("G", 0);
        fewest("Gp10001", 1);
        fewest("Gp10001p10002p11003", 2);
        fewest("Gx0099", 0);
        fewest("Gp10001fp20002fx1010", 1);
    }

    private static void promise25WithoutEyes() {
        document.says(25, "Returns the writes that there would be, if all eyes were closed,");
        fewest("Gp10001op10002", 1);
        fewest("Gp10001op10002op10003", 1);
        fewest("Gp10001ofp10002f", 1);
        fewest("Gp10001ofx0099of", 0);
        // A run that stands alone is not cleaned again.
        fewest("Gp10001op10002f", 2);
        fewest("Gp10001of", 1);
    }

    private static void promise25MemoryIsFlushed() {
        document.says(25, "memory was flushed (if it has writes, even if there are 5 runs),");
        fewest("Gp10001f", 1);
        fewest("Gp10001p10002", 1);
        fewest("Gp10001x0099", 0);
        fewest(Check.FIVE_RUNS, 5);
        fewest(Check.FIVE_RUNS + "p06001", 6);
        fewest(Check.FIVE_RUNS + "x0104", 1);
        fewest(Check.FIVE_RUNS + "x0005", 0);
        fewest("Gp01001fp01002fp01003fp01004fp01005fp01006", 1);
    }

    private static void promise25RunsAreMerged() {
        document.says(25, "and the newest two runs were merged until there is one run or none");
        fewest("Gp10001fp10002f", 1);
        fewest("Gp10001fp10002fp10003fp10004fp10005f", 1);
        fewest("Gp10001fx1010f", 0);
        fewest("Gp10001fx1010fp20001f", 1);
        fewest("Gp10001fp20001fx1020fx0005f", 0);
        // A run that stands alone is not cleaned again, one that is merged is.
        fewest("Gp10001ox1010op10002f", 3);
        fewest("Gp10001ox1010op10002fp20001f", 2);
        fewest("Gp10001ofx1010fm0c0", 2);
        fewest("Gp10001ofx1010fm0c0x0000", 0);
    }

    private static void promise25NothingIsTooMuch() {
        document.says(25, "(nothing being too much on the way).");
        RangeGraves x = Check.cutting(24, false);
        Check.noState("flush is too much", () -> x.flush());
        Check.same("on the way nothing is", x.fewest(), 1);
        RangeGraves y = Check.cuttingRuns(24);
        Check.noState("merge is too much", () -> y.merge(0));
        Check.same("on this way, too", y.fewest(), 1);
        for (int graves = 22; graves <= 45; graves++) {
            RangeGraves z = Check.cutting(graves, true);
            z.put(98, 1);
            Check.same("a merge to " + (2 * graves + 3) + " writes", z.fewest(), 2);
        }
        RangeGraves most = new RangeGraves();
        most.bury(0, 99);
        for (int i = 0; i < 47; i++) {
            most.put(i, 1);
        }
        Check.same("fewest of 48", most.fewest(), 47);
    }
}
