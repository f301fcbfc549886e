/** Promises 18 to 25: looking, and what would be. */
public final class LookingTest {
    private static final int NONE = RangeGraves.NONE;
    private static final int[] NO_KEYS = {-1, 100, Integer.MIN_VALUE, Integer.MAX_VALUE};
    private static final int[] NO_EYES = {-2, 1, 2, Integer.MIN_VALUE, Integer.MAX_VALUE};

    public static void main(String[] arguments) {
        promise18Looks();
        promise19Next();
        promise20Count();
        promise21Hidden();
        promise22Grave();
        promise23Saves();
        promise24Best();
        promise25Fewest();
        promise25FewestOfMuch();
        lookingChangesNothing();
        Check.end("LookingTest");
    }

    private static void looks(String history, int... due) {
        RangeGraves x = Check.loaded(history);
        for (int i = 0; i < due.length; i++) {
            Check.same(history + " looks " + 10 * i, x.looks(10 * i), due[i]);
        }
    }

    private static void promise18Looks() {
        looks("G", 0);
        looks("Gp10001", 1, 1, 1);
        looks("Gp10001f", 1, 1, 1);
        looks("Gp10001fp20002f", 2, 2, 1, 2);
        looks("Gp10001fp20002fp30003", 3, 3, 2, 1, 3);
        looks("Gp10001fp20002fx1010", 3, 1, 2, 3);
        looks("Gp10001fx1010f", 2, 1, 2);
        looks("Gp10001fx0020fp30001f", 2, 2, 2, 1, 3);
        // Now, not as an eye: the newer place counts.
        looks("Gp10001fop10002", 2, 1, 2);
        RangeGraves x = Check.loaded("Gp99001fp98001");
        Check.same("looks 99", x.looks(99), 2);
        for (int k : NO_KEYS) {
            Check.noPlace("looks " + k, () -> x.looks(k));
        }
    }

    private static void promise19Next() {
        RangeGraves x = Check.loaded("Gp10001p20002p30003p99004fox1020p15005");
        Check.same("next 0", x.next(0, NONE), 15);
        Check.same("next 15", x.next(15, NONE), 15);
        Check.same("next 16", x.next(16, NONE), 30);
        Check.same("next 31", x.next(31, NONE), 99);
        Check.same("next 99", x.next(99, NONE), 99);
        Check.same("next 0 of the eye", x.next(0, 0), 10);
        Check.same("next 11 of the eye", x.next(11, 0), 20);
        x.bury(99, 99);
        Check.same("next 31 of none", x.next(31, NONE), NONE);
        Check.same("next 99 of none", x.next(99, NONE), NONE);
        Check.same("next 31 of the eye", x.next(31, 0), 99);
        for (int k : NO_KEYS) {
            Check.noPlace("next " + k, () -> x.next(k, NONE));
        }
        for (int e : NO_EYES) {
            Check.noPlace("next of eye " + e, () -> x.next(0, e));
        }
    }

    private static void promise20Count() {
        RangeGraves x = Check.loaded("Gp00001p10001p20002p30003p99004fox1020p15005");
        Check.same("count all", x.count(0, 99, NONE), 4);
        Check.same("count all of the eye", x.count(0, 99, 0), 5);
        Check.same("count 10 to 20", x.count(10, 20, NONE), 1);
        Check.same("count 10 to 20 of the eye", x.count(10, 20, 0), 2);
        Check.same("count 0 to 0", x.count(0, 0, NONE), 1);
        Check.same("count 1 to 14", x.count(1, 14, NONE), 0);
        Check.same("count 15 to 30", x.count(15, 30, NONE), 2);
        Check.same("count 16 to 29", x.count(16, 29, NONE), 0);
        Check.same("count 99 to 99", x.count(99, 99, NONE), 1);
        for (int k : NO_KEYS) {
            Check.noPlace("count from " + k, () -> x.count(k, 50, NONE));
            Check.noPlace("count to " + k, () -> x.count(50, k, NONE));
        }
        for (int e : NO_EYES) {
            Check.noPlace("count of eye " + e, () -> x.count(0, 99, e));
            Check.noPlace("count of no row of eye " + e, () -> x.count(9, 0, e));
        }
        Check.noArgument("count 9 to 8", () -> x.count(9, 8, NONE));
        Check.noArgument("count 99 to 0 of the eye", () -> x.count(99, 0, 0));
    }

    private static void hidden(String history, int due) {
        Check.same(history + " hidden", Check.loaded(history).hidden(), due);
    }

    private static void promise21Hidden() {
        hidden("G", 0);
        hidden("Gp10001", 0);
        hidden("Gp10001p10002p10003", 2);
        hidden("Gp10001x0020", 1);
        hidden("Gp10001x1120", 0);
        hidden("Gx0020p10001", 0);
        hidden("Gp10001fp10002fp10003", 2);
        hidden("Gp10001fx0099", 1);
        hidden("Gp10001op10002", 0);
        hidden("Gp10001p10002op10003", 1);
        hidden("Gp10001op10002p10003op10004", 1);
        hidden("Gp10001op10002p10003op10004c0", 2);
        hidden("Gp10001op10002p10003op10004c0c0", 3);
        hidden("Gop10001p10002", 1);
        // Graves do not count.
        hidden("Gx0099x0099x0099", 0);
    }

    private static void promise22Grave() {
        RangeGraves x = Check.loaded("Gp10001x0530fx1020fx1515p15002");
        int[] keys = {4, 5, 9, 10, 14, 15, 16, 20, 21, 30, 31};
        // No run is older than the first one: of its grave nothing is left.
        int[] due = {NONE, NONE, NONE, NONE, NONE, 4, NONE, NONE, NONE, NONE, NONE};
        for (int i = 0; i < keys.length; i++) {
            Check.same("grave " + keys[i], x.grave(keys[i]), due[i]);
        }
        RangeGraves y = Check.loaded("Gp50001fx0530fx1020fx1515p15002p05003");
        int[] then = {NONE, 2, 2, 3, 3, 4, 3, 3, 2, 2, NONE};
        for (int i = 0; i < keys.length; i++) {
            Check.same("grave " + keys[i], y.grave(keys[i]), then[i]);
        }
        Check.same("grave 0", Check.loaded("Gx0099").grave(0), 1);
        Check.same("grave 99", Check.loaded("Gx0099").grave(99), 1);
        for (int k : NO_KEYS) {
            Check.noPlace("grave " + k, () -> x.grave(k));
        }
    }

    /** Key 0 in the oldest run, a grave from 1 to 99 in the next one, and graves that cut it. */
    private static RangeGraves cutting(int graves) {
        RangeGraves x = Check.loaded("Gp00001fx0199f");
        for (int i = 0; i < graves; i++) {
            x.bury(3 + 2 * i, 3 + 2 * i);
        }
        x.flush();
        return x;
    }

    private static void promise23Saves() {
        RangeGraves x = Check.loaded("Gp10001fp10002fp20003fx1010f");
        Check.same("saves 0", x.saves(0), 0);
        Check.same("saves 1", x.saves(1), 0);
        Check.same("saves 2", x.saves(2), 1);
        Check.noState("saves of the last run", () -> x.saves(3));
        for (int i : new int[] {NONE, 4, 5, Integer.MIN_VALUE, Integer.MAX_VALUE}) {
            Check.noPlace("saves " + i, () -> x.saves(i));
        }
        Check.same("saves of all", Check.loaded("Gp10001fx0099f").saves(0), 2);
        Check.same("saves less than nothing", cutting(2).saves(0), -2);
        Check.same("saves up to 48 writes", cutting(23).saves(0), -23);
        Check.noState("saves where merge would be too much", () -> cutting(24).saves(0));
        Check.same("saves with an eye", Check.loaded("Gp10001fop10002f").saves(0), 0);
    }

    private static void best(String history, int due) {
        Check.same(history + " best", Check.loaded(history).best(), due);
    }

    private static void promise24Best() {
        best("G", NONE);
        best("Gp10001p10002", NONE);
        best("Gp10001f", NONE);
        best("Gp10001fp20002f", 0);
        best("Gp10001fp10002fp10003f", 0);
        best("Gp10001fp10002fp20003f", 1);
        best("Gp10001fp20003fp20002f", 0);
        best("Gp10001p11001fx1011fp20003fp20004fp20005f", 3);
        Check.same("saves of less than nothing", cutting(3).best(), 1);
        Check.same("a merge that is too much is not possible", cutting(24).best(), 1);
        RangeGraves cut = Check.loaded("Gp00001p01001ox1020fx1515f");
        Check.same("the one that there is", cut.best(), 0);
        RangeGraves x = cutting(2);
        x.merge(1);
        Check.same("a single merge", x.best(), 0);
    }

    private static void fewest(String history, int due) {
        Check.same(history + " fewest", Check.loaded(history).fewest(), due);
    }

    private static void promise25Fewest() {
        fewest("G", 0);
        fewest("Gp10001", 1);
        fewest("Gp10001p10002p11003", 2);
        fewest("Gx0099", 0);
        fewest("Gp10001op10002f", 2);
        fewest("Gp10001op10002", 1);
        fewest("Gp10001of", 1);
        fewest("Gp10001ofx0099of", 0);
        fewest("Gp10001fp20002fx1010", 1);
        fewest("Gp01001fp02001fp03001fp04001fp05001fp06001", 6);
        fewest("Gp01001fp01002fp01003fp01004fp01005fp01006", 1);
        fewest("Gp01001fp02001fp03001fp04001fp05001fx0104", 1);
        // A run that stands alone is not cleaned again.
        fewest("Gp10001ofx1010fm0c0", 2);
        fewest("Gp10001ox1010op10002f", 3);
    }

    private static void promise25FewestOfMuch() {
        RangeGraves x = Check.loaded("Gp00001fx0199");
        for (int i = 0; i < 24; i++) {
            x.bury(3 + 2 * i, 3 + 2 * i);
        }
        Check.noState("flush is too much", () -> x.flush());
        Check.same("on the way nothing is", x.fewest(), 1);
        RangeGraves y = cutting(24);
        Check.noState("merge is too much", () -> y.merge(0));
        Check.same("on this way, too", y.fewest(), 1);
        RangeGraves z = new RangeGraves();
        z.bury(0, 99);
        for (int i = 0; i < 47; i++) {
            z.put(i, 1);
        }
        Check.same("fewest of 48", z.fewest(), 47);
    }

    private static void lookingChangesNothing() {
        RangeGraves x = Check.loaded("Gp10001fop10002fx0020p05001");
        String before = Check.everything(x);
        x.looks(10);
        x.next(0, 0);
        x.count(0, 99, NONE);
        x.hidden();
        x.grave(10);
        x.saves(0);
        x.best();
        x.fewest();
        Check.sameText("looking", Check.everything(x), before);
        Check.noState("looking is no action", () -> x.undo());
    }
}
