/** Actions and undo (in the terms of the document), and promises 11 to 17, a sentence each. */
public final class ActionsTest {
    private static final int NONE = RangeGraves.NONE;
    private static final int[] NO_KEYS = {-1, 100, Integer.MIN_VALUE, Integer.MAX_VALUE};
    private static final String ACTIONS = "ACTIONS AND UNDO";

    private static Document document;

    public static void main(String[] arguments) throws Exception {
        document = Document.of(arguments);
        whatIsTheState();
        eachCallIsAnAction();
        undoIsNoAction();
        stateAheadOfTheAction();
        fourteenStates();
        loadAndRestoreAreNoActions();
        document.allSaid(ACTIONS);
        promise11();
        promise11Number();
        promise11NoSuchKey();
        promise11ValueOutOfRange();
        promise11FortyEightWrites();
        promise12();
        promise12Keys();
        promise12Answer();
        promise12NoSuchKey();
        promise12NoRow();
        promise12FortyEightWrites();
        promise13();
        promise13TwoAreOpen();
        promise14();
        promise14Answer();
        promise14NoSuchEye();
        promise15();
        promise15Answer();
        promise15NoWrites();
        promise15FiveRuns();
        promise15TooMuch();
        promise16();
        promise16Answer();
        promise16NoSuchRun();
        promise16NoRunBehind();
        promise16TooMuch();
        promise17();
        promise17Answer();
        promise17NoneIsRemembered();
        document.allSaid(11, 17);
        Check.end("ActionsTest");
    }

    // ---- terms: actions and undo

    /** Two runs, memory and two eyes, behind so many actions, each of which changes the state. */
    private static RangeGraves changed(int actions) {
        RangeGraves x = Check.loaded("Gp10001fp10002fp20003x0030op20004o");
        for (int i = 0; i < actions; i++) {
            switch (i) {
                case 0: x.close(0); break;
                case 1: x.bury(20, 20); break;
                case 2: x.open(); break;
                case 3: x.flush(); break;
                case 4: x.merge(1); break;
                case 5: x.merge(0); break;
                case 6: x.close(1); break;
                default: x.put(1, 1); break;
            }
        }
        return x;
    }

    private static void whatIsTheState() {
        document.says(ACTIONS, "The methods in the section \"actions\" change the state, which consists of "
                + "everything but the text and the save slots.");
        String[] behind = new String[9];
        for (int i = 0; i < behind.length; i++) {
            behind[i] = Check.everything(changed(i));
            Check.same(behind[i] + " is different", i > 0 && behind[i].equals(behind[i - 1]) ? 0 : 1, 1);
        }
        RangeGraves x = changed(8);
        x.append('q');
        x.save(1);
        for (int i = 7; i >= 0; i--) {
            Check.same("undo " + i, x.undo(), i);
            Check.sameText("undo " + i, Check.everything(x), behind[i]);
        }
        Check.noState("undo", () -> x.undo());
        Check.same("the text is not taken back", x.clearText(), 35);
        x.restore(1);
        Check.sameText("nor is the slot", Check.everything(x), behind[8]);
        Check.noState("nor filled", () -> x.restore(0));
    }

    private static void eachCallIsAnAction() {
        document.says(ACTIONS, "Each call of one of them that does not throw an exception is an action, also "
                + "if nothing becomes different");
        RangeGraves x = Check.loaded("Gp10001f");
        x.put(10, 1);
        x.put(10, 1);
        x.bury(90, 90);
        x.flush();
        x.open();
        x.close(0);
        x.merge(0);
        for (int left = 6; left >= 0; left--) {
            Check.same("undo", x.undo(), left);
        }
        Check.noPlace("put", () -> x.put(100, 1));
        Check.noArgument("put", () -> x.put(1, 0));
        Check.noArgument("bury", () -> x.bury(1, 0));
        Check.noPlace("close", () -> x.close(0));
        Check.noState("merge", () -> x.merge(0));
        Check.noPlace("merge", () -> x.merge(1));
        Check.noState("flush", () -> x.flush());
        Check.noState("a call that throws is no action", () -> x.undo());
    }

    private static void undoIsNoAction() {
        document.says(ACTIONS, "(undo is none).");
        RangeGraves x = new RangeGraves();
        x.put(1, 1);
        x.put(2, 2);
        x.put(3, 3);
        Check.same("undo", x.undo(), 2);
        Check.same("undo is not taken back", x.undo(), 1);
        Check.sameText("what is left", Check.everything(x), "1:1=1 latest 1 fewer 0");
        Check.same("put", x.put(4, 4), 2);
        Check.same("undo", x.undo(), 1);
        Check.same("undo", x.undo(), 0);
        Check.noState("undo", () -> x.undo());
    }

    private static void stateAheadOfTheAction() {
        document.says(ACTIONS, "Before each action, the state is remembered.");
        RangeGraves x = new RangeGraves();
        x.put(10, 1);
        x.open();
        x.put(10, 2);
        x.undo();
        Check.sameText("the state ahead of put", Check.everything(x), "1:10=1 eyes 1 latest 1 fewer 0");
        x.flush();
        x.put(20, 2);
        x.flush();
        x.merge(0);
        x.undo();
        Check.sameText("the state ahead of merge", Check.everything(x),
                " | 2:20=2 | 1:10=1 eyes 1 latest 2 fewer 0");
        x.close(0);
        x.undo();
        Check.same("the state ahead of close", x.eye(0), 1);
    }

    private static void fourteenStates() {
        document.says(ACTIONS, "At most 14 states are remembered; when one more is remembered, the oldest one "
                + "is forgotten.");
        for (int actions : new int[] {1, 13, 14, 15, 16, 27, 28, 29, 30, 40}) {
            RangeGraves x = new RangeGraves();
            for (int i = 0; i < actions; i++) {
                x.put(i, 1);
            }
            int left = Math.min(14, actions);
            for (int i = left - 1; i >= 0; i--) {
                Check.same("undo of " + actions, x.undo(), i);
                Check.same("about 0", x.about(0), actions - left + i);
            }
            Check.noState("undo of too much", () -> x.undo());
        }
        RangeGraves x = Check.loaded("Gp10001");
        for (int i = 0; i < 15; i++) {
            x.bury(50, 50);
            x.undo();
            x.bury(50, 50);
        }
        for (int i = 13; i >= 0; i--) {
            Check.same("undo between", x.undo(), i);
            Check.same("writes", x.about(4), 2 + i);
        }
    }

    private static void loadAndRestoreAreNoActions() {
        document.says(ACTIONS, "load and restore are not actions.");
        RangeGraves x = Check.loaded("Gp10001p10002");
        Check.noState("undo behind load", () -> x.undo());
        x.load();
        Check.noState("undo behind another load", () -> x.undo());
        x.save(0);
        x.restore(0);
        Check.noState("undo behind restore", () -> x.undo());
    }

    // ---- promise 11: put

    private static void promise11() {
        document.says(11, "Writes an entry. - `k`: key - `v`: 1 to 999");
        RangeGraves x = new RangeGraves();
        x.put(0, 1);
        x.put(99, 999);
        x.put(0, 5);
        Check.same("get 0", x.get(0, NONE), 5);
        Check.same("get 99", x.get(99, NONE), 999);
        Check.sameText("writes", Check.everything(x), "1:0=1 2:99=999 3:0=5 latest 3 fewer 0");
    }

    private static void promise11Number() {
        document.says(11, "Returns its number.");
        RangeGraves x = new RangeGraves();
        Check.same("put", x.put(7, 70), 1);
        Check.same("put", x.put(7, 70), 2);
        x.bury(0, 9);
        Check.same("put behind a grave", x.put(7, 70), 4);
        x.flush();
        Check.same("put behind flush", x.put(7, 70), 5);
        x.undo();
        Check.same("put behind undo", x.put(7, 70), 5);
    }

    private static void promise11NoSuchKey() {
        document.says(11, "Throws `IndexOutOfBoundsException` if there is no such key");
        RangeGraves x = new RangeGraves();
        for (int k : NO_KEYS) {
            Check.noPlace("put " + k, () -> x.put(k, 1));
            Check.noPlace("put of no value " + k, () -> x.put(k, 0));
        }
        Check.same("put 0", x.put(0, 1), 1);
        Check.same("put 99", x.put(99, 1), 2);
    }

    private static void promise11ValueOutOfRange() {
        document.says(11, "Throws `IllegalArgumentException` if v is out of range");
        RangeGraves x = new RangeGraves();
        for (int v : new int[] {0, -1, 1000, Integer.MIN_VALUE, Integer.MAX_VALUE}) {
            Check.noArgument("put of " + v, () -> x.put(0, v));
        }
        Check.same("put of 1", x.put(0, 1), 1);
        Check.same("put of 999", x.put(0, 999), 2);
    }

    private static void promise11FortyEightWrites() {
        document.says(11, "Throws `IllegalStateException` if there are 48 writes");
        RangeGraves x = new RangeGraves();
        for (int number = 1; number <= 48; number++) {
            Check.same("put", x.put(number, 1), number);
        }
        Check.noState("put", () -> x.put(1, 1));
        Check.noPlace("put of no key", () -> x.put(100, 1));
        Check.noArgument("put of no value", () -> x.put(1, 0));
        Check.same("flush of 48 writes", x.flush(), 48);
        Check.noState("put", () -> x.put(1, 1));
        x.undo();
        x.undo();
        Check.same("put where there are 47", x.put(1, 1), 48);
    }

    // ---- promise 12: bury

    private static void promise12() {
        document.says(12, "Writes a grave.");
        RangeGraves x = Check.loaded("Gp10001p20002");
        x.bury(15, 30);
        Check.sameText("writes", Check.everything(x), "1:10=1 2:20=2 3:15-30 latest 3 fewer 0");
        Check.same("get 10", x.get(10, NONE), 1);
        Check.same("get 20", x.get(20, NONE), NONE);
    }

    private static void promise12Keys() {
        document.says(12, "- `from`: first key - `to`: last key");
        RangeGraves x = Check.loaded("Gp09001p10001p11001p12001p13001");
        Check.same("bury", x.bury(10, 12), 3);
        Check.same("the one below", x.get(9, NONE), 1);
        Check.same("the first one", x.get(10, NONE), NONE);
        Check.same("the last one", x.get(12, NONE), NONE);
        Check.same("the one above", x.get(13, NONE), 1);
        Check.same("bury of one key", x.bury(13, 13), 1);
        Check.same("bury of all keys", x.bury(0, 99), 1);
    }

    private static void promise12Answer() {
        document.says(12, "Returns for how many keys of it something is seen now, ahead of it.");
        RangeGraves x = Check.loaded("Gp10001p11002p12003p13004x1212");
        Check.same("bury", x.bury(11, 13), 2);
        Check.same("bury again", x.bury(11, 13), 0);
        Check.same("bury all", x.bury(0, 99), 1);
        Check.same("bury nothing", x.bury(0, 99), 0);
        Check.same("bury of a new object", new RangeGraves().bury(0, 99), 0);
        RangeGraves eyed = Check.loaded("Gp10001ox1010");
        Check.same("what an eye sees is not counted", eyed.bury(10, 10), 0);
        Check.same("the eye sees it still", eyed.get(10, 0), 1);
        Check.same("keys in runs, a key once", Check.loaded("Gp10001fp10002fp10003p11001").bury(10, 11), 2);
    }

    private static void promise12NoSuchKey() {
        document.says(12, "Throws `IndexOutOfBoundsException` if there is no such key");
        RangeGraves x = new RangeGraves();
        for (int k : NO_KEYS) {
            Check.noPlace("bury from " + k + " to 0", () -> x.bury(k, 0));
            Check.noPlace("bury from " + k + " to 99", () -> x.bury(k, 99));
            Check.noPlace("bury from 0 to " + k, () -> x.bury(0, k));
            Check.noPlace("bury from 99 to " + k, () -> x.bury(99, k));
        }
        Check.noPlace("bury from 100 to -1", () -> x.bury(100, -1));
        Check.same("no grave was written", x.about(0), 0);
    }

    private static void promise12NoRow() {
        document.says(12, "Throws `IllegalArgumentException` if to is less than from");
        RangeGraves x = new RangeGraves();
        Check.noArgument("bury from 1 to 0", () -> x.bury(1, 0));
        Check.noArgument("bury from 99 to 98", () -> x.bury(99, 98));
        Check.noArgument("bury from 99 to 0", () -> x.bury(99, 0));
        Check.same("no grave was written", x.about(0), 0);
        Check.same("bury from 98 to 98", x.bury(98, 98), 0);
        Check.same("bury from 98 to 99", x.bury(98, 99), 0);
        Check.same("two were", x.about(0), 2);
    }

    private static void promise12FortyEightWrites() {
        document.says(12, "Throws `IllegalStateException` if there are 48 writes");
        RangeGraves x = new RangeGraves();
        for (int number = 1; number <= 48; number++) {
            Check.same("bury", x.bury(number, number), 0);
            Check.same("writes", x.about(4), number);
        }
        Check.noState("bury", () -> x.bury(1, 1));
        Check.noPlace("bury of no key", () -> x.bury(1, 100));
        Check.noArgument("bury of no row", () -> x.bury(1, 0));
        x.undo();
        Check.same("bury where there are 47", x.bury(0, 99), 0);
        x.flush();
        Check.same("bury where all were dropped", x.bury(0, 99), 0);
    }

    // ---- promises 13 and 14: open and close

    private static void promise13() {
        document.says(13, "Opens an eye.");
        document.says(13, "Returns its number, as an eye.");
        RangeGraves x = Check.loaded("Gp10001p10002");
        Check.same("open", x.open(), 0);
        Check.same("what it sees", x.get(10, 0), 2);
        x.put(10, 3);
        Check.same("open", x.open(), 1);
        Check.same("what it sees", x.get(10, 1), 3);
        Check.same("the first one", x.get(10, 0), 2);
        x.close(0);
        Check.same("open again", x.open(), 1);
        Check.same("open of a new object", new RangeGraves().open(), 0);
    }

    private static void promise13TwoAreOpen() {
        document.says(13, "Throws `IllegalStateException` if 2 are open");
        RangeGraves x = new RangeGraves();
        x.open();
        Check.same("open where 1 is open", x.open(), 1);
        Check.noState("open", () -> x.open());
        Check.same("eyes", x.about(3), 2);
        x.close(1);
        Check.same("open where 1 is open", x.open(), 1);
        Check.noState("open", () -> x.open());
    }

    private static void promise14() {
        document.says(14, "Closes an eye; one behind it has a number that is 1 less. - `e`: eye");
        RangeGraves x = Check.loaded("Gp10001op10002o");
        x.close(0);
        Check.same("the one behind it", x.eye(0), 2);
        Check.same("what it sees", x.get(10, 0), 2);
        Check.noPlace("its number of before", () -> x.eye(1));
        RangeGraves y = Check.loaded("Gp10001op10002o");
        y.close(1);
        Check.same("the one ahead of it stays", y.eye(0), 1);
        Check.noPlace("the one that is closed", () -> y.eye(1));
    }

    private static void promise14Answer() {
        document.says(14, "Returns the open eyes then.");
        Check.same("close 0 of one", Check.loaded("Go").close(0), 0);
        Check.same("close 0 of two", Check.loaded("Goo").close(0), 1);
        Check.same("close 1 of two", Check.loaded("Goo").close(1), 1);
    }

    private static void promise14NoSuchEye() {
        document.says(14, "Throws `IndexOutOfBoundsException` if no such eye is open");
        for (int eyes = 0; eyes <= 2; eyes++) {
            RangeGraves x = Check.loaded("Goo".substring(0, 1 + eyes));
            for (int e : new int[] {NONE, -2, eyes, 2, Integer.MIN_VALUE, Integer.MAX_VALUE}) {
                Check.noPlace("close " + e + " of " + eyes, () -> x.close(e));
            }
            Check.same("eyes", x.about(3), eyes);
        }
        RangeGraves x = Check.loaded("Go");
        x.close(0);
        Check.noPlace("close again", () -> x.close(0));
    }

    // ---- promise 15: flush

    private static void promise15() {
        document.says(15, "Flushes memory.");
        RangeGraves x = Check.loaded("Gp10001p10002p11003f");
        x.bury(0, 30);
        x.bury(10, 15);
        x.flush();
        Check.sameText("the newest run is 0", Check.everything(x),
                " | 4:0-9 4:16-30 5:10-15 | 2:10=2 3:11=3 latest 5 fewer 0");
    }

    private static void promise15Answer() {
        document.says(15, "Returns the writes of memory that became a run, how many.");
        String[] memories = {"p20001", "x2020", "p20001p20002", "p20001x2020", "p20001p21001", "x2020x2020",
            "x0030x1015", "x0030x1010x2020"};
        int[] due = {1, 1, 1, 1, 2, 1, 3, 5};
        for (int i = 0; i < memories.length; i++) {
            RangeGraves x = Check.loaded("Gp50001f" + memories[i]);
            Check.same("flush of " + memories[i], x.flush(), due[i]);
            Check.same("writes of the run", x.run(0, 0) + x.run(0, 1), due[i]);
        }
        Check.same("flush of which nothing is left", Check.loaded("Gx0099").flush(), 0);
        Check.same("flush of which nothing is left", Check.loaded("Gp10001x0099").flush(), 0);
    }

    private static void promise15NoWrites() {
        document.says(15, "Throws `IllegalStateException` if memory has no writes");
        RangeGraves x = new RangeGraves();
        Check.noState("flush of a new object", () -> x.flush());
        x.put(10, 1);
        x.flush();
        Check.noState("flush behind flush", () -> x.flush());
        Check.same("runs", x.about(2), 1);
        RangeGraves y = new RangeGraves();
        y.bury(10, 20);
        Check.same("flush of which nothing is left", y.flush(), 0);
        Check.noState("flush behind it", () -> y.flush());
    }

    private static void promise15FiveRuns() {
        document.says(15, ", there are 5 runs,");
        RangeGraves x = Check.loaded(Check.FIVE_RUNS);
        Check.noState("flush of no writes", () -> x.flush());
        x.put(6, 1);
        Check.noState("flush to a sixth run", () -> x.flush());
        Check.same("memory is as it was", x.about(1), 1);
        x.merge(3);
        Check.same("flush to a fifth run", x.flush(), 1);
        Check.same("runs", x.about(2), 5);
    }

    private static void promise15TooMuch() {
        document.says(15, "or there would be more than 48 writes");
        RangeGraves x = Check.cutting(23, false);
        Check.same("flush to 48 writes", x.flush(), 47);
        Check.same("about 4", x.about(4), 48);
        Check.same("about 8", x.about(8), -23);
        RangeGraves y = Check.cutting(23, false);
        y.put(98, 1);
        String before = Check.everything(y);
        Check.noState("flush to 49 writes", () -> y.flush());
        Check.sameText("nothing is different", Check.everything(y), before);
        y.undo();
        Check.same("the last action is no flush", y.about(1), 24);
        Check.noState("flush to 50 writes", () -> Check.cutting(24, false).flush());
        Check.noState("flush to 94 writes", () -> Check.cutting(46, false).flush());
        promise15TooMuchWithoutRuns();
    }

    private static void promise15TooMuchWithoutRuns() {
        RangeGraves x = Check.eyed(24);
        x.bury(0, 99);
        Check.same("flush to 48 writes, without a run", x.flush(), 48);
        RangeGraves y = Check.eyed(24);
        y.bury(0, 99);
        y.put(1, 1);
        Check.noState("flush to 49 writes, without a run", () -> y.flush());
        RangeGraves z = Check.eyed(46);
        z.bury(0, 99);
        z.open();
        z.bury(0, 99);
        Check.noState("flush to 138 writes, without a run", () -> z.flush());
        Check.same("which is no action", z.undo(), 13);
        z.undo();
        z.undo();
        z.undo();
        Check.same("flush of the entries", z.flush(), 46);
    }

    // ---- promise 16: merge

    private static void promise16() {
        document.says(16, "Merges a run with the one behind it. - `i`: run");
        RangeGraves x = Check.loaded("Gp10001p11002fp10003fx1111fp12004fx4050f");
        x.merge(1);
        Check.sameText("in their place", Check.everything(x),
                " | 6:40-50 | 4:11-11 5:12=4 | 3:10=3 | 1:10=1 2:11=2 latest 6 fewer 0");
        x.merge(2);
        Check.sameText("the last two", Check.everything(x),
                " | 6:40-50 | 4:11-11 5:12=4 | 2:11=2 3:10=3 latest 6 fewer 1");
        x.merge(1);
        Check.sameText("an entry under a grave", Check.everything(x),
                " | 6:40-50 | 3:10=3 5:12=4 latest 6 fewer 3");
        x.put(10, 1);
        x.merge(0);
        Check.sameText("memory stays", Check.everything(x), "7:10=1 | 3:10=3 5:12=4 latest 7 fewer 4");
    }

    private static void promise16Answer() {
        document.says(16, "Returns the writes of the merged run, how many (0 if none is left).");
        String[] histories = {"Gp10001fp20001f", "Gp10001fp10002f", "Gp10001p20001fp20001p30001f", "Gp10001fx1010f",
            "Gp10001fx2020f", "Gp10001fx0030fx1010x2020f", "Gp10001fx0030fx1010fp20001f"};
        int[] due = {2, 1, 3, 0, 1, 5, 2};
        for (int i = 0; i < histories.length; i++) {
            RangeGraves x = Check.loaded(histories[i]);
            Check.same("merge 0 of " + histories[i], x.merge(0), due[i]);
        }
        Check.same("merge 1 of three", Check.loaded("Gp10001fx1010fp20001f").merge(1), 0);
    }

    private static void promise16NoSuchRun() {
        document.says(16, "Throws `IndexOutOfBoundsException` if there is no such run");
        for (int many = 0; many <= 5; many++) {
            RangeGraves x = Check.loaded(Check.FIVE_RUNS.substring(0, 1 + 7 * many));
            for (int i : new int[] {NONE, -2, many, 5, Integer.MIN_VALUE, Integer.MAX_VALUE}) {
                Check.noPlace("merge " + i + " of " + many, () -> x.merge(i));
            }
        }
    }

    private static void promise16NoRunBehind() {
        document.says(16, "Throws `IllegalStateException` if there is no run behind it");
        for (int many = 1; many <= 5; many++) {
            RangeGraves x = Check.loaded(Check.FIVE_RUNS.substring(0, 1 + 7 * many));
            int last = many - 1;
            Check.noState("merge of the last run of " + many, () -> x.merge(last));
            if (many > 1) {
                Check.same("merge of the one ahead of it", x.merge(last - 1), 2);
            }
        }
    }

    private static void promise16TooMuch() {
        document.says(16, ", or there would be more than 48 writes");
        RangeGraves x = Check.cuttingRuns(23);
        Check.same("merge to 48 writes", x.merge(0), 47);
        Check.same("about 4", x.about(4), 48);
        RangeGraves y = Check.cutting(23, true);
        y.put(98, 1);
        y.flush();
        String before = Check.everything(y);
        Check.noState("merge to 49 writes", () -> y.merge(0));
        Check.sameText("nothing is different", Check.everything(y), before);
        Check.noState("merge of the last run", () -> y.merge(2));
        Check.same("the other merge", y.merge(1), 1);
        Check.same("and then all", y.merge(0), 2);
        // A write in memory counts, too.
        RangeGraves z = Check.cuttingRuns(23);
        z.put(98, 1);
        Check.noState("merge to 49 writes, one of them in memory", () -> z.merge(0));
        promise16UpToTheLimit();
        promise16OfAllWrites();
    }

    private static void promise16OfAllWrites() {
        for (int entries = 23; entries <= 26; entries++) {
            RangeGraves x = Check.eyed(entries);
            x.flush();
            x.bury(0, 99);
            Check.same("flush", x.flush(), 1);
            if (entries > 24) {
                Check.noState("merge to " + 2 * entries, () -> x.merge(0));
            } else {
                Check.same("merge of all", x.merge(0), 2 * entries);
            }
        }
        RangeGraves y = Check.eyed(24);
        y.flush();
        y.bury(0, 99);
        y.put(1, 1);
        y.flush();
        Check.noState("merge to 49 writes", () -> y.merge(0));
    }

    /** The older one of the two runs has more writes than the run behind both. */
    private static void promise16UpToTheLimit() {
        RangeGraves x = Check.loaded("Gp00001fx0199p98001p99001f");
        for (int i = 0; i < 22; i++) {
            x.bury(3 + 2 * i, 3 + 2 * i);
        }
        x.flush();
        Check.same("merge to 48 writes", x.merge(0), 47);
        x.undo();
        x.undo();
        x.bury(60, 60);
        x.flush();
        Check.noState("merge to 50 writes", () -> x.merge(0));
    }

    // ---- promise 17: undo

    private static void promise17() {
        document.says(17, "Takes back the last action that is remembered.");
        RangeGraves x = new RangeGraves();
        x.put(1, 1);
        x.put(2, 2);
        x.undo();
        Check.sameText("put 2 is taken back", Check.everything(x), "1:1=1 latest 1 fewer 0");
        Check.same("its number is given again", x.bury(3, 3), 0);
        Check.same("to the grave", x.about(0), 2);
        x.undo();
        x.undo();
        Check.sameText("all is taken back", Check.everything(x), " latest 0 fewer 0");
    }

    private static void promise17Answer() {
        document.says(17, "Returns how many states are still remembered.");
        RangeGraves x = new RangeGraves();
        x.put(1, 1);
        x.put(2, 2);
        Check.same("undo", x.undo(), 1);
        Check.same("undo", x.undo(), 0);
        for (int i = 0; i < 14; i++) {
            x.open();
            x.close(0);
        }
        Check.same("undo of 28 actions", x.undo(), 13);
    }

    private static void promise17NoneIsRemembered() {
        document.says(17, "Throws `IllegalStateException` if none is remembered");
        RangeGraves x = new RangeGraves();
        Check.noState("undo of a new object", () -> x.undo());
        x.put(1, 1);
        x.undo();
        Check.noState("undo of too much", () -> x.undo());
        Check.same("nothing is different", x.about(0), 0);
        for (int i = 0; i < 15; i++) {
            x.put(1, 1);
        }
        for (int i = 0; i < 14; i++) {
            x.undo();
        }
        Check.noState("undo of the one that is forgotten", () -> x.undo());
        Check.same("nothing is different", x.about(0), 1);
    }
}
