/** Promises 11 to 17: actions and undo. */
public final class ActionsTest {
    private static final int NONE = RangeGraves.NONE;
    private static final int[] NO_KEYS = {-1, 100, Integer.MIN_VALUE, Integer.MAX_VALUE};

    public static void main(String[] arguments) {
        promise11Put();
        promise12Bury();
        promise11And12FortyEightWrites();
        promise13Open();
        promise14Close();
        promise15Flush();
        promise15FlushOfTooMuch();
        promise16Merge();
        promise16MergeOfTooMuch();
        promise16MergeUpToTheLimit();
        promise17Undo();
        promise17UndoTakesAllBack();
        promise17FourteenStates();
        throwingCallsAreNoActions();
        Check.end("ActionsTest");
    }

    private static void promise11Put() {
        RangeGraves x = new RangeGraves();
        Check.same("put", x.put(0, 1), 1);
        Check.same("put", x.put(99, 999), 2);
        Check.same("put again", x.put(0, 5), 3);
        Check.same("get", x.get(0, NONE), 5);
        Check.same("get", x.get(99, NONE), 999);
        Check.sameText("writes", Check.everything(x), "1:0=1 2:99=999 3:0=5 latest 3 fewer 0");
        for (int k : NO_KEYS) {
            Check.noPlace("put " + k, () -> x.put(k, 1));
            Check.noPlace("put " + k + " 0", () -> x.put(k, 0));
        }
        for (int v : new int[] {0, -1, 1000, Integer.MIN_VALUE, Integer.MAX_VALUE}) {
            Check.noArgument("put 0 " + v, () -> x.put(0, v));
        }
        x.flush();
        Check.same("the numbers go on behind flush", x.put(1, 1), 4);
        x.bury(0, 99);
        x.flush();
        x.merge(0);
        Check.same("and where nothing is left", x.about(4), 0);
        Check.same("they go on, too", x.put(1, 1), 6);
    }

    private static void promise12Bury() {
        RangeGraves x = Check.loaded("Gp10001p11002p12003p13004x1212");
        Check.same("bury", x.bury(11, 13), 2);
        Check.same("bury again", x.bury(11, 13), 0);
        Check.same("bury all", x.bury(0, 99), 1);
        Check.same("about 6", x.about(6), 0);
        Check.same("about 0", x.about(0), 8);
        x.put(99, 1);
        x.put(0, 1);
        Check.same("bury one", x.bury(99, 99), 1);
        Check.same("bury the other one", x.bury(0, 0), 1);
        for (int k : NO_KEYS) {
            Check.noPlace("bury " + k + " 5", () -> x.bury(k, 5));
            Check.noPlace("bury 5 " + k, () -> x.bury(5, k));
        }
        Check.noArgument("bury 6 5", () -> x.bury(6, 5));
        Check.noArgument("bury 99 0", () -> x.bury(99, 0));
        RangeGraves eyed = Check.loaded("Gp10001ox1010");
        Check.same("what an eye sees is not counted", eyed.bury(10, 10), 0);
        Check.same("the eye sees it still", eyed.get(10, 0), 1);
    }

    private static void promise11And12FortyEightWrites() {
        RangeGraves x = new RangeGraves();
        for (int i = 1; i <= 24; i++) {
            Check.same("put", x.put(i, i), 2 * i - 1);
            Check.same("bury", x.bury(50, 60), 0);
        }
        Check.noState("put 49", () -> x.put(1, 1));
        Check.noState("bury 49", () -> x.bury(1, 1));
        Check.noPlace("put of no key comes first", () -> x.put(100, 1));
        Check.noArgument("put of no value, too", () -> x.put(1, 0));
        Check.noPlace("bury of no key, too", () -> x.bury(1, 100));
        Check.noArgument("bury of no row, too", () -> x.bury(1, 0));
        Check.same("about 4", x.about(4), 48);
        Check.same("flush", x.flush(), 24);
        for (int i = 1; i <= 24; i++) {
            x.put(i, i);
        }
        Check.noState("put when runs and memory have 48", () -> x.put(1, 1));
        Check.noState("bury, too", () -> x.bury(1, 1));
    }

    private static void promise13Open() {
        RangeGraves x = Check.loaded("Gp10001");
        Check.same("open", x.open(), 0);
        x.put(10, 2);
        Check.same("open", x.open(), 1);
        Check.same("its number", x.eye(1), 2);
        Check.noState("open a third one", () -> x.open());
        Check.same("about 3", x.about(3), 2);
        x.close(0);
        Check.same("open again", x.open(), 1);
    }

    private static void promise14Close() {
        RangeGraves x = Check.loaded("Gp10001op10002o");
        for (int e : new int[] {NONE, 2, Integer.MIN_VALUE, Integer.MAX_VALUE}) {
            Check.noPlace("close " + e, () -> x.close(e));
        }
        Check.same("close 0", x.close(0), 1);
        Check.same("the other one", x.eye(0), 2);
        Check.noPlace("close 1", () -> x.close(1));
        Check.same("close 0 again", x.close(0), 0);
        Check.noPlace("close 0 of none", () -> x.close(0));
        RangeGraves y = Check.loaded("Gp10001op10002o");
        Check.same("close 1", y.close(1), 1);
        Check.same("the first one stays", y.eye(0), 1);
    }

    private static void promise15Flush() {
        RangeGraves x = new RangeGraves();
        Check.noState("flush of nothing", () -> x.flush());
        x.bury(0, 99);
        Check.same("flush of which nothing is left", x.flush(), 0);
        Check.same("no run", x.about(2), 0);
        Check.noState("flush of nothing again", () -> x.flush());
        x.put(10, 1);
        x.put(10, 2);
        x.put(11, 3);
        Check.same("flush", x.flush(), 2);
        x.bury(0, 30);
        x.bury(10, 15);
        Check.same("flush of graves that are cut", x.flush(), 3);
        Check.sameText("the newest run is 0", Check.everything(x),
                " | 5:0-9 5:16-30 6:10-15 | 3:10=2 4:11=3 latest 6 fewer 1");
        for (int i = 0; i < 3; i++) {
            x.put(20 + i, 1);
            Check.same("flush", x.flush(), 1);
        }
        x.put(30, 1);
        Check.noState("flush to a sixth run", () -> x.flush());
        Check.same("memory is as it was", x.about(1), 1);
        x.merge(3);
        Check.same("runs behind a merge", x.about(2), 3);
        Check.same("flush then", x.flush(), 1);
    }

    /** Key 0 in the oldest run, then a grave from 1 to 99, and so many graves that cut it. */
    private static RangeGraves cutting(int graves, boolean runBetween) {
        RangeGraves x = new RangeGraves();
        x.put(0, 1);
        x.flush();
        x.bury(1, 99);
        if (runBetween) {
            x.flush();
        }
        for (int i = 0; i < graves; i++) {
            x.bury(3 + 2 * i, 3 + 2 * i);
        }
        return x;
    }

    private static void promise15FlushOfTooMuch() {
        RangeGraves x = cutting(23, false);
        Check.same("flush to 48 writes", x.flush(), 47);
        Check.same("about 4", x.about(4), 48);
        Check.same("about 8", x.about(8), -23);
        Check.noState("put", () -> x.put(1, 1));
        RangeGraves y = cutting(24, false);
        String before = Check.everything(y);
        Check.noState("flush to 50 writes", () -> y.flush());
        Check.sameText("nothing is different", Check.everything(y), before);
        y.undo();
        Check.same("the last action is no flush", y.about(1), 24);
    }

    private static void promise16Merge() {
        RangeGraves x = Check.loaded("Gp10001p11002fp10003fx1111fp12004fx4050f");
        for (int i : new int[] {NONE, 5, Integer.MIN_VALUE, Integer.MAX_VALUE}) {
            Check.noPlace("merge " + i, () -> x.merge(i));
        }
        Check.noState("merge of the last run", () -> x.merge(4));
        Check.same("merge 1", x.merge(1), 2);
        Check.sameText("in their place", Check.everything(x),
                " | 6:40-50 | 4:11-11 5:12=4 | 3:10=3 | 1:10=1 2:11=2 latest 6 fewer 0");
        Check.same("merge 2", x.merge(2), 2);
        Check.sameText("the last two", Check.everything(x),
                " | 6:40-50 | 4:11-11 5:12=4 | 2:11=2 3:10=3 latest 6 fewer 1");
        Check.same("merge 1", x.merge(1), 2);
        Check.sameText("an entry under a grave", Check.everything(x),
                " | 6:40-50 | 3:10=3 5:12=4 latest 6 fewer 3");
        Check.noPlace("merge 2 of two", () -> x.merge(2));
        Check.noState("merge 1 of two", () -> x.merge(1));
        Check.same("merge 0", x.merge(0), 2);
        x.bury(10, 12);
        x.flush();
        Check.same("merge of which nothing is left", x.merge(0), 0);
        Check.same("no run", x.about(2), 0);
        Check.noPlace("merge 0 of none", () -> x.merge(0));
    }

    private static void promise16MergeOfTooMuch() {
        RangeGraves x = cutting(23, true);
        x.flush();
        Check.same("merge to 48 writes", x.merge(0), 47);
        Check.same("about 4", x.about(4), 48);
        RangeGraves y = cutting(24, true);
        y.flush();
        String before = Check.everything(y);
        Check.noState("merge to 50 writes", () -> y.merge(0));
        Check.sameText("nothing is different", Check.everything(y), before);
        Check.noState("merge of the last run", () -> y.merge(2));
        Check.same("the other merge", y.merge(1), 1);
        Check.same("and then all", y.merge(0), 1);
    }

    /** The older one of the two runs has more writes than the run behind both. */
    private static void promise16MergeUpToTheLimit() {
        RangeGraves x = Check.loaded("Gp00001fx0199p98001p99001f");
        for (int i = 0; i < 22; i++) {
            x.bury(3 + 2 * i, 3 + 2 * i);
        }
        x.flush();
        Check.same("merge to 48 writes", x.merge(0), 47);
        x.undo();
        x.undo();
        x.bury(60, 60);
        x.flush();
        Check.noState("merge to 50 writes", () -> x.merge(0));
    }

    private static void promise17Undo() {
        RangeGraves x = new RangeGraves();
        Check.noState("undo of nothing", () -> x.undo());
        x.put(1, 1);
        x.put(2, 2);
        Check.same("undo", x.undo(), 1);
        Check.sameText("of put", Check.everything(x), "1:1=1 latest 1 fewer 0");
        Check.same("undo", x.undo(), 0);
        Check.sameText("of the first one", Check.everything(x), " latest 0 fewer 0");
        Check.noState("undo is no action", () -> x.undo());
        Check.same("the number is given again", x.put(3, 3), 1);
    }

    private static void promise17UndoTakesAllBack() {
        RangeGraves x = Check.loaded("Gp10001fp10002fp20003x0030op20004o");
        String[] before = new String[8];
        for (int i = 0; i < before.length; i++) {
            before[i] = Check.everything(x);
            switch (i) {
                case 0: x.close(0); break;
                case 1: x.bury(20, 20); break;
                case 2: x.open(); break;
                case 3: x.flush(); break;
                case 4: x.merge(1); break;
                case 5: x.merge(0); break;
                case 6: x.close(1); break;
                default: x.put(1, 1); break;
            }
        }
        for (int i = before.length - 1; i >= 0; i--) {
            Check.same("undo " + i, x.undo(), i);
            Check.sameText("undo " + i, Check.everything(x), before[i]);
        }
        Check.noState("undo of load", () -> x.undo());
    }

    private static void promise17FourteenStates() {
        for (int actions : new int[] {13, 14, 15, 29, 40}) {
            RangeGraves x = new RangeGraves();
            for (int i = 0; i < actions; i++) {
                x.put(i, 1);
            }
            int left = Math.min(14, actions);
            for (int i = left - 1; i >= 0; i--) {
                Check.same("undo", x.undo(), i);
                Check.same("about 0", x.about(0), actions - left + i);
            }
            Check.noState("undo of too much", () -> x.undo());
        }
        RangeGraves x = Check.loaded("Gp10001");
        for (int i = 0; i < 15; i++) {
            x.bury(50, 50);
            x.undo();
            x.bury(50, 50);
        }
        Check.same("undo between", x.undo(), 13);
    }

    private static void throwingCallsAreNoActions() {
        RangeGraves x = Check.loaded("Gp10001f");
        x.put(1, 1);
        Check.noPlace("put", () -> x.put(100, 1));
        Check.noArgument("put", () -> x.put(1, 0));
        Check.noArgument("bury", () -> x.bury(1, 0));
        Check.noPlace("close", () -> x.close(0));
        Check.noState("merge", () -> x.merge(0));
        Check.same("undo", x.undo(), 0);
        Check.noState("flush", () -> x.flush());
        Check.noState("no other one is remembered", () -> x.undo());
        // An action that makes nothing different is remembered all the same.
        x.bury(90, 90);
        x.open();
        x.close(0);
        Check.same("undo", x.undo(), 2);
    }
}
