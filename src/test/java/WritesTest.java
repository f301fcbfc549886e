/** What the terms of the document say of writes, runs, eyes and views, a sentence each. */
public final class WritesTest {
    private static final int NONE = RangeGraves.NONE;
    private static final String WRITES = "WRITES";

    private static Document document;

    public static void main(String[] arguments) throws Exception {
        document = Document.of(arguments);
        whatItTells();
        calls512();
        keysAre0To99();
        numbersOfWrites();
        numbersGoOn();
        entriesAreForOneKey();
        gravesAreForARow();
        writesConcernKeys();
        memoryIsInOrder();
        fiveRuns();
        fortyEightWrites();
        twoEyes();
        views();
        document.allSaid("Terms");
        document.allSaid(WRITES);
        Check.end("WritesTest");
    }

    private static void whatItTells() {
        document.says("Terms", "It tells what is seen by whom, in how many places one has to look, what is "
                + "hidden from all, what a merge would save and which one saves most. Changes can be undone.");
        RangeGraves x = Check.loaded("Gp10001p20002fop10003f");
        x.bury(20, 20);
        Check.same("what is seen now", x.get(10, NONE), 3);
        Check.same("what the eye sees", x.get(10, 0), 1);
        Check.same("the places for 10", x.looks(10), 2);
        Check.same("hidden", x.hidden(), 0);
        Check.same("hidden", x.close(0), 0);
        Check.same("hidden without an eye", x.hidden(), 2);
        Check.same("saves", x.saves(0), 1);
        Check.same("best", x.best(), 0);
        Check.same("undo", x.undo(), 1);
        Check.same("hidden", x.hidden(), 0);
    }

    private static void calls512() {
        document.says("What it is", "An object is used for at most 512 calls after it has been made");
        RangeGraves x = new RangeGraves();
        for (int call = 1; call < 511; call += 2) {
            Check.same("put in call " + call, x.put(call % 100, 1), 1);
            Check.same("undo in call " + (call + 1), x.undo(), 0);
        }
        Check.same("put in call 511", x.put(5, 5), 1);
        Check.same("call 512", x.get(5, NONE), 5);
        // The numbers of writes come to 256 where each one is flushed away.
        RangeGraves y = new RangeGraves();
        for (int number = 1; number <= 255; number++) {
            Check.same("bury in call " + (2 * number - 1), y.bury(0, 99), 0);
            Check.same("flush in call " + 2 * number, y.flush(), 0);
        }
        Check.same("put in call 511", y.put(5, 5), 256);
        Check.same("call 512", y.write(NONE, 0, 0), 256);
    }

    private static void keysAre0To99() {
        document.says(WRITES, "Keys are 0 to 99.");
        RangeGraves x = new RangeGraves();
        for (int k : new int[] {0, 99}) {
            Check.same("put", x.put(k, 7), x.about(0));
            Check.same("get", x.get(k, NONE), 7);
            Check.same("looks", x.looks(k), 1);
            Check.same("next", x.next(k, NONE), k);
            Check.same("count", x.count(k, k, NONE), 1);
            Check.same("bury", x.bury(k, k), 1);
            Check.same("grave", x.grave(k), x.about(0));
        }
        for (int k : new int[] {-1, 100, Integer.MIN_VALUE, Integer.MAX_VALUE}) {
            Check.noPlace("put", () -> x.put(k, 7));
            Check.noPlace("get", () -> x.get(k, NONE));
            Check.noPlace("looks", () -> x.looks(k));
            Check.noPlace("next", () -> x.next(k, NONE));
            Check.noPlace("count from", () -> x.count(k, 99, NONE));
            Check.noPlace("count to", () -> x.count(0, k, NONE));
            Check.noPlace("bury from", () -> x.bury(k, 99));
            Check.noPlace("bury to", () -> x.bury(0, k));
            Check.noPlace("grave", () -> x.grave(k));
        }
    }

    private static void numbersOfWrites() {
        document.says(WRITES, "Each write has a number: the first one is 1, and each later one is 1 more.");
        RangeGraves x = new RangeGraves();
        Check.same("no write", x.about(0), 0);
        Check.same("put", x.put(50, 1), 1);
        Check.same("bury", x.bury(20, 30), 0);
        Check.same("the number of the grave", x.about(0), 2);
        Check.same("put", x.put(10, 1), 3);
        Check.noPlace("put that throws", () -> x.put(100, 1));
        Check.noArgument("bury that throws", () -> x.bury(1, 0));
        Check.same("put", x.put(10, 1), 4);
        Check.sameText("the writes", Check.writes(x, NONE), "1:50=1 2:20-30 3:10=1 4:10=1");
        RangeGraves grave = new RangeGraves();
        grave.bury(0, 99);
        Check.same("a grave that is the first one", grave.write(NONE, 0, 0), 1);
    }

    private static void numbersGoOn() {
        document.says(WRITES, "each later one is 1 more");
        RangeGraves x = Check.loaded("Gp10001p10002x0099f");
        Check.same("writes where all are dropped", x.about(4), 0);
        Check.same("the latest number", x.about(0), 3);
        Check.same("put", x.put(1, 1), 4);
        for (int number = 5; number <= 120; number++) {
            Check.same("put", x.put(1, 1), number);
            Check.same("flush", x.flush(), 1);
            if (x.about(2) == 2) {
                Check.same("merge", x.merge(0), 1);
            }
        }
        Check.sameText("the one that is left", Check.everything(x), " | 120:1=1 latest 120 fewer 119");
    }

    private static void entriesAreForOneKey() {
        document.says(WRITES, "An entry is a write for one key, with a value, 1 to 999.");
        RangeGraves x = new RangeGraves();
        x.put(5, 1);
        x.put(7, 999);
        Check.same("one key", x.run(NONE, 4), 2);
        Check.same("the least value", x.get(5, NONE), 1);
        Check.same("the key between", x.get(6, NONE), NONE);
        Check.same("the most value", x.get(7, NONE), 999);
        for (int v : new int[] {0, 1000, -1, Integer.MIN_VALUE, Integer.MAX_VALUE}) {
            Check.noArgument("put of the value " + v, () -> x.put(5, v));
        }
    }

    private static void gravesAreForARow() {
        document.says(WRITES, "A grave is a write for all keys from one up to, and with, another one.");
        RangeGraves x = Check.loaded("Gp00001p02001p03001p04001p05001p06001p99001");
        Check.same("bury", x.bury(3, 5), 3);
        int[] keys = {2, 3, 4, 5, 6};
        int[] due = {1, NONE, NONE, NONE, 1};
        for (int i = 0; i < keys.length; i++) {
            Check.same("get " + keys[i], x.get(keys[i], NONE), due[i]);
            Check.same("grave " + keys[i], x.grave(keys[i]), due[i] == 1 ? NONE : 8);
        }
        Check.same("a grave for one key", x.bury(6, 6), 1);
        Check.same("the one below it", x.get(2, NONE), 1);
        Check.same("get", x.get(6, NONE), NONE);
        Check.same("a grave for all keys", x.bury(0, 99), 3);
        Check.same("get 0", x.get(0, NONE), NONE);
        Check.same("get 99", x.get(99, NONE), NONE);
    }

    private static void writesConcernKeys() {
        document.says(WRITES, "A write concerns the keys that it is for.");
        RangeGraves x = Check.loaded("Gp50001fp10001x2022f");
        int[] keys = {9, 10, 11, 19, 20, 21, 22, 23};
        int[] due = {2, 1, 2, 2, 1, 1, 1, 2};
        for (int i = 0; i < keys.length; i++) {
            Check.same("looks " + keys[i], x.looks(keys[i]), due[i]);
        }
        Check.same("keys of the run", x.run(0, 4), 4);
    }

    private static void memoryIsInOrder() {
        document.says(WRITES, "New writes are in memory, in the order of their numbers.");
        RangeGraves x = Check.loaded("Gp90001p10002x5060p10003x0005");
        Check.sameText("memory", Check.writes(x, NONE), "1:90=1 2:10=2 3:50-60 4:10=3 5:0-5");
        Check.same("runs", x.about(2), 0);
        x.flush();
        Check.same("memory behind flush", x.about(1), 0);
        x.put(1, 1);
        Check.sameText("a new write", Check.writes(x, NONE), "6:1=1");
    }

    private static void fiveRuns() {
        document.says(WRITES, "There are at most 5 runs, numbered from 0, the newest one first; all writes of "
                + "a run are older than those of runs ahead of it, and of memory.");
        RangeGraves x = new RangeGraves();
        for (int i = 1; i <= 5; i++) {
            x.put(i, i);
            x.put(10 * i, i);
            Check.same("flush", x.flush(), 2);
            Check.same("runs", x.about(2), i);
        }
        x.put(60, 6);
        Check.noState("a sixth run", () -> x.flush());
        Check.same("runs", x.about(2), 5);
        for (int i = 0; i < 5; i++) {
            Check.same("lowest number of run " + i, x.run(i, 2), 9 - 2 * i);
            Check.same("highest number of run " + i, x.run(i, 3), 10 - 2 * i);
        }
        Check.same("lowest number of memory", x.run(NONE, 2), 11);
        Check.noPlace("run 5", () -> x.run(5, 0));
    }

    private static void fortyEightWrites() {
        document.says(WRITES, "There are at most 48 writes in memory and in all runs together.");
        RangeGraves x = new RangeGraves();
        for (int i = 0; i < 48; i++) {
            Check.same("put", x.put(i, 1), i + 1);
            if (i % 16 == 15) {
                Check.same("flush", x.flush(), 16);
            }
        }
        Check.noState("put to runs alone", () -> x.put(1, 1));
        x.undo();
        Check.noState("put to two runs and memory", () -> x.put(1, 1));
        Check.noState("bury", () -> x.bury(1, 1));
        x.undo();
        Check.same("bury as the last one", x.bury(90, 90), 0);
        Check.same("writes", x.about(4), 48);
        RangeGraves y = new RangeGraves();
        for (int i = 0; i < 48; i++) {
            y.put(1, 1);
        }
        Check.noState("put to memory alone", () -> y.put(1, 1));
        y.flush();
        Check.same("there is room where writes were dropped", y.put(1, 1), 49);
    }

    private static void twoEyes() {
        document.says(WRITES, "At most 2 eyes are open, numbered from 0 in the order in which they were "
                + "opened; an eye has the number of the latest write when it was opened (0 if there was none).");
        RangeGraves x = new RangeGraves();
        Check.same("open", x.open(), 0);
        x.put(1, 1);
        x.bury(2, 3);
        Check.same("open", x.open(), 1);
        Check.same("an eye without a write", x.eye(0), 0);
        Check.same("an eye behind a grave", x.eye(1), 2);
        Check.noState("a third eye", () -> x.open());
        x.put(1, 1);
        Check.same("it keeps its number", x.eye(1), 2);
        x.close(0);
        Check.same("open", x.open(), 1);
        Check.same("the one that was opened first", x.eye(0), 2);
        Check.same("the one that was opened last", x.eye(1), 3);
        RangeGraves y = Check.loaded("Gp10001x0099foo");
        Check.same("the latest write counts where it was dropped", y.eye(0), 2);
        Check.same("two eyes of one number", y.eye(1), 2);
    }

    private static void views() {
        document.says(WRITES, "A view is an eye, or now. A view sees for a key the newest write that concerns "
                + "it, for an eye of those whose number is not greater than that of the eye: if that is an "
                + "entry, its value; if it is a grave, or there is none, it sees nothing.");
        RangeGraves x = Check.loaded("Gp10001p11001op10002x1111op10003p11003x1010");
        int[][] due = {{1, 1}, {2, NONE}, {NONE, 3}};
        for (int i = 0; i < 2; i++) {
            int key = 10 + i;
            Check.same("the first eye, " + key, x.get(key, 0), due[0][i]);
            Check.same("the second eye, " + key, x.get(key, 1), due[1][i]);
            Check.same("now, " + key, x.get(key, NONE), due[2][i]);
        }
        for (int e = NONE; e < 2; e++) {
            Check.same("a key without a write", x.get(12, e), NONE);
        }
        RangeGraves y = Check.loaded("Gp10001fp10002fop10003fp10004");
        Check.same("now, in memory", y.get(10, NONE), 4);
        Check.same("the eye, two runs behind", y.get(10, 0), 2);
    }
}
