/** What the terms of the document say of exceptions, of NONE, and ahead of the calls, a sentence each. */
public final class ExceptionsTest {
    private static final int NONE = RangeGraves.NONE;
    private static final String EXCEPTIONS = "EXCEPTIONS";
    private static final int[] FAR = {Integer.MIN_VALUE, Integer.MAX_VALUE};

    private static Document document;

    public static void main(String[] arguments) throws Exception {
        document = Document.of(arguments);
        indexOutOfBounds();
        illegalArgument();
        illegalState();
        theOneNamedFirst();
        throwingChangesNothing();
        throwingAtALimitChangesNothing();
        theConstant();
        textCallsAreNoActions();
        whatThereIsChangesNothing();
        actionsAreActions();
        lookingChangesNothing();
        scriptsChangeNothing();
        saveSlotsAreNoActions();
        document.allSaid(EXCEPTIONS);
        Check.end("ExceptionsTest");
    }

    private interface CallOf {
        long answer(RangeGraves x);
    }

    /** Two runs, memory, an eye, four remembered states, a filled slot, and a text that is no history. */
    private static RangeGraves busy() {
        RangeGraves x = Check.loaded("Gp10001fp10002f");
        x.save(1);
        x.put(20, 3);
        x.open();
        x.bury(15, 30);
        x.put(25, 4);
        Check.type(x, "Gp1");
        return x;
    }

    private static RangeGraves full() {
        RangeGraves x = new RangeGraves();
        for (int i = 0; i < 48; i++) {
            x.put(i, 1 + i);
        }
        return x;
    }

    private static RangeGraves fiveRuns() {
        RangeGraves x = Check.loaded(Check.FIVE_RUNS);
        x.put(6, 1);
        return x;
    }

    private static RangeGraves fullText() {
        RangeGraves x = busy();
        Check.type(x, "G" + "o".repeat(119));
        return x;
    }

    // ---- which exceptions

    private static void indexOutOfBounds() {
        document.says(EXCEPTIONS, "IndexOutOfBoundsException means that a key, a run or an eye does not "
                + "exist, or that a save slot is not 0 or 1.");
        for (int k : new int[] {-1, 100, FAR[0], FAR[1]}) {
            Check.noPlace("a key", () -> busy().get(k, NONE));
            Check.noPlace("a key", () -> busy().put(k, 1));
            Check.noPlace("a key", () -> busy().bury(0, k));
        }
        for (int i : new int[] {-2, 2, FAR[0], FAR[1]}) {
            Check.noPlace("a run", () -> busy().run(i, 0));
            Check.noPlace("a run", () -> busy().write(i, 0, 0));
            Check.noPlace("a run", () -> busy().merge(i));
            Check.noPlace("a run", () -> busy().saves(i));
        }
        for (int e : new int[] {-2, 1, FAR[0], FAR[1]}) {
            Check.noPlace("an eye", () -> busy().get(0, e));
            Check.noPlace("an eye", () -> busy().eye(e));
            Check.noPlace("an eye", () -> busy().close(e));
        }
        for (int slot : new int[] {-1, 2, FAR[0], FAR[1]}) {
            Check.noPlace("a slot", () -> busy().save(slot));
            Check.noPlace("a slot", () -> busy().restore(slot));
        }
    }

    private static void illegalArgument() {
        document.says(EXCEPTIONS, "IllegalArgumentException means that another argument is out of its range.");
        RangeGraves x = busy();
        Check.noArgument("append", () -> x.append(256));
        Check.noArgument("about", () -> x.about(9));
        Check.noArgument("run", () -> x.run(0, 5));
        Check.noArgument("write", () -> x.write(0, -1, 0));
        Check.noArgument("write", () -> x.write(0, 0, 4));
        Check.noArgument("put", () -> x.put(0, 1000));
        Check.noArgument("bury", () -> x.bury(1, 0));
        Check.noArgument("count", () -> x.count(1, 0, NONE));
        Check.noArgument("runScript", () -> x.runScript(4, 0));
        Check.noArgument("simulate", () -> x.simulate(0, 61));
    }

    private static void illegalState() {
        document.says(EXCEPTIONS, "IllegalStateException means what the method says.");
        Check.noState("append", () -> fullText().append('f'));
        Check.noState("load", () -> busy().load());
        Check.noState("put", () -> full().put(1, 1));
        Check.noState("bury", () -> full().bury(1, 1));
        Check.noState("open", () -> Check.loaded("Goo").open());
        Check.noState("flush", () -> fiveRuns().flush());
        Check.noState("merge", () -> Check.cuttingRuns(24).merge(0));
        Check.noState("undo", () -> new RangeGraves().undo());
        Check.noState("saves", () -> Check.cuttingRuns(24).saves(0));
        Check.noState("restore", () -> busy().restore(0));
    }

    private static void theOneNamedFirst() {
        document.says(EXCEPTIONS, "If several exceptions apply to a call, the one that its description names "
                + "first is thrown.");
        Check.noArgument("append of no sign to a full text", () -> fullText().append(-1));
        Check.noPlace("run of no number of no run", () -> busy().run(2, 5));
        Check.noPlace("write of no write of no run", () -> busy().write(2, -1, 0));
        Check.noPlace("write of no number of no run", () -> busy().write(-2, 0, -1));
        Check.noPlace("put of no value for no key", () -> full().put(100, 0));
        Check.noPlace("put for no key where it is full", () -> full().put(-1, 1));
        Check.noArgument("put of no value where it is full", () -> full().put(1, 0));
        Check.noPlace("bury to no key of no row", () -> full().bury(50, -1));
        Check.noPlace("bury from no key of no row", () -> full().bury(100, 50));
        Check.noPlace("bury of no key where it is full", () -> full().bury(1, 100));
        Check.noArgument("bury of no row where it is full", () -> full().bury(1, 0));
        Check.noPlace("merge of no run", () -> Check.loaded("Gp10001f").merge(1));
        Check.noPlace("saves of no run", () -> Check.loaded("Gp10001f").saves(1));
        Check.noPlace("count of no row of no eye", () -> busy().count(1, 0, 1));
        Check.noPlace("count of no row to no key", () -> busy().count(50, -1, NONE));
        Check.noPlace("count of no row from no key", () -> busy().count(100, 50, NONE));
        Check.noPlace("restore of no slot where none is filled", () -> new RangeGraves().restore(2));
    }

    // ---- what throws changes nothing

    /** What an object is behind a call, whether the call answers or throws. */
    private static RangeGraves behind(Check.Maker maker, CallOf call) {
        RangeGraves x = maker.make();
        Check.told(() -> call.answer(x));
        return x;
    }

    /** The call throws, and the object is then just as one of which it was not asked. */
    private static void changesNothing(String what, Check.Maker maker, CallOf call) {
        RangeGraves x = maker.make();
        String told = Check.told(() -> call.answer(x));
        Check.same(what + " throws, told is " + told, told.endsWith("Exception") ? 1 : 0, 1);
        Check.sameText("all behind " + what, Check.whole(() -> behind(maker, call)), Check.whole(maker));
    }

    private static void throwingChangesNothing() {
        document.says(EXCEPTIONS, "A call that throws an exception changes nothing.");
        changesNothing("append", ExceptionsTest::busy, x -> x.append(256));
        changesNothing("load", ExceptionsTest::busy, x -> x.load());
        changesNothing("about", ExceptionsTest::busy, x -> x.about(9));
        changesNothing("get", ExceptionsTest::busy, x -> x.get(100, NONE));
        changesNothing("run", ExceptionsTest::busy, x -> x.run(2, 0));
        changesNothing("write", ExceptionsTest::busy, x -> x.write(0, 0, 4));
        changesNothing("eye", ExceptionsTest::busy, x -> x.eye(1));
        changesNothing("put of no key", ExceptionsTest::busy, x -> x.put(100, 1));
        changesNothing("put of no value", ExceptionsTest::busy, x -> x.put(1, 0));
        changesNothing("bury of no key", ExceptionsTest::busy, x -> x.bury(0, 100));
        changesNothing("bury of no row", ExceptionsTest::busy, x -> x.bury(1, 0));
        changesNothing("close", ExceptionsTest::busy, x -> x.close(1));
        changesNothing("merge of no run", ExceptionsTest::busy, x -> x.merge(2));
        changesNothing("merge of the last run", ExceptionsTest::busy, x -> x.merge(1));
        changesNothing("looks", ExceptionsTest::busy, x -> x.looks(100));
        changesNothing("next", ExceptionsTest::busy, x -> x.next(0, 1));
        changesNothing("count", ExceptionsTest::busy, x -> x.count(1, 0, NONE));
        changesNothing("grave", ExceptionsTest::busy, x -> x.grave(100));
        changesNothing("saves", ExceptionsTest::busy, x -> x.saves(1));
        changesNothing("runScript", ExceptionsTest::busy, x -> x.runScript(0, 50000));
        changesNothing("simulate", ExceptionsTest::busy, x -> x.simulate(0, 0));
        changesNothing("save", ExceptionsTest::busy, x -> x.save(2));
        changesNothing("restore of no slot", ExceptionsTest::busy, x -> x.restore(2));
        changesNothing("restore of an empty slot", ExceptionsTest::busy, x -> x.restore(0));
    }

    private static void throwingAtALimitChangesNothing() {
        document.says(EXCEPTIONS, "A call that throws an exception changes nothing.");
        changesNothing("append", ExceptionsTest::fullText, x -> x.append('f'));
        changesNothing("put", ExceptionsTest::full, x -> x.put(1, 1));
        changesNothing("bury", ExceptionsTest::full, x -> x.bury(1, 1));
        changesNothing("open", () -> Check.loaded("Gp10001oo"), x -> x.open());
        changesNothing("flush of no writes", () -> Check.loaded("Gp10001f"), x -> x.flush());
        changesNothing("flush to a sixth run", ExceptionsTest::fiveRuns, x -> x.flush());
        changesNothing("flush that is too much", () -> Check.cutting(24, false), x -> x.flush());
        changesNothing("merge that is too much", () -> Check.cuttingRuns(24), x -> x.merge(0));
        changesNothing("saves of what is too much", () -> Check.cuttingRuns(24), x -> x.saves(0));
        changesNothing("undo", () -> Check.loaded("Gp10001f"), x -> x.undo());
    }

    // ---- the constant, and what the interface says ahead of the calls

    private static void theConstant() {
        document.says(EXCEPTIONS, "The constants: `NONE = -1`: There is no such result; as a run, memory; as "
                + "an eye, now.");
        Check.same("NONE", NONE, -1);
        RangeGraves x = busy();
        Check.same("no such result", x.grave(10), -1);
        Check.same("memory", x.run(-1, 0), 2);
        Check.same("memory", x.write(-1, 0, 3), 3);
        Check.same("now", x.get(25, -1), 4);
        Check.same("now", x.next(11, -1), 25);
        Check.same("now", x.count(0, 99, -1), 2);
        Check.noPlace("it is no run", () -> x.merge(-1));
        Check.noPlace("it is no run", () -> x.saves(-1));
        Check.noPlace("it is no eye", () -> x.eye(-1));
        Check.noPlace("it is no eye", () -> x.close(-1));
    }

    /** The call answers, and the object is then just as one of which it was not asked. */
    private static void answersAndChangesNothing(String what, CallOf call) {
        RangeGraves x = busy();
        String told = Check.told(() -> call.answer(x));
        Check.same(what + " answers, told is " + told, told.endsWith("Exception") ? 0 : 1, 1);
        Check.sameText("all behind " + what, Check.whole(() -> behind(ExceptionsTest::busy, call)),
                Check.whole(ExceptionsTest::busy));
    }

    private static void textCallsAreNoActions() {
        document.says(EXCEPTIONS, "Ahead of the calls `append`, `clearText`, `errorPosition`, `load` the "
                + "interface says: ---- text.");
        RangeGraves x = busy();
        String before = Check.everything(x);
        x.append('0');
        x.clearText();
        x.append('G');
        x.errorPosition();
        Check.sameText("the state is as it was", Check.everything(x), before);
        Check.same("the actions are those of before", x.undo(), 3);
        Check.same("the text is not taken back", x.load(), 0);
        answersAndChangesNothing("errorPosition", y -> y.errorPosition());
    }

    private static void whatThereIsChangesNothing() {
        document.says(EXCEPTIONS, "Ahead of the calls `about`, `get`, `run`, `write`, `eye` the interface "
                + "says: ---- what there is.");
        for (int what = 0; what <= 8; what++) {
            int number = what;
            answersAndChangesNothing("about " + number, x -> x.about(number));
        }
        answersAndChangesNothing("get", x -> x.get(10, 0));
        answersAndChangesNothing("run", x -> x.run(NONE, 4));
        answersAndChangesNothing("write", x -> x.write(0, 0, 0));
        answersAndChangesNothing("eye", x -> x.eye(0));
    }

    private static RangeGraves takenBack(CallOf action) {
        RangeGraves x = behind(ExceptionsTest::busy, action);
        x.undo();
        return x;
    }

    private static void actionsAreActions() {
        document.says(EXCEPTIONS, "Ahead of the calls `put`, `bury`, `open`, `close`, `flush`, `merge`, "
                + "`undo` the interface says: ---- actions.");
        CallOf[] actions = {x -> x.put(1, 1), x -> x.bury(1, 1), x -> x.open(), x -> x.close(0), x -> x.flush(),
            x -> x.merge(0)};
        for (CallOf action : actions) {
            RangeGraves x = behind(ExceptionsTest::busy, action);
            Check.same("undo of the action", x.undo(), 4);
            Check.sameText("it is taken back", Check.whole(() -> takenBack(action)),
                    Check.whole(ExceptionsTest::busy));
        }
        Check.same("undo of the action before", busy().undo(), 3);
    }

    private static void lookingChangesNothing() {
        document.says(EXCEPTIONS, "Ahead of the calls `looks`, `next`, `count`, `hidden`, `grave`, `saves`, "
                + "`best`, `fewest` the interface says: ---- looking, and what would be; these and all "
                + "following methods up to the save slots change nothing.");
        answersAndChangesNothing("looks", x -> x.looks(10));
        answersAndChangesNothing("next", x -> x.next(0, 0));
        answersAndChangesNothing("count", x -> x.count(0, 99, NONE));
        answersAndChangesNothing("hidden", x -> x.hidden());
        answersAndChangesNothing("grave", x -> x.grave(20));
        answersAndChangesNothing("saves", x -> x.saves(0));
        answersAndChangesNothing("best", x -> x.best());
        answersAndChangesNothing("fewest", x -> x.fewest());
    }

    private static void scriptsChangeNothing() {
        document.says(EXCEPTIONS, "Ahead of the calls `runScript`, `simulate` the interface says: ---- "
                + "scripts, simulations.");
        answersAndChangesNothing("runScript", x -> x.runScript(3, 300004000060000L));
        answersAndChangesNothing("runScript", x -> x.runScript(3, 101015000020099L));
        for (int seed = 0; seed < 10; seed++) {
            int from = seed;
            answersAndChangesNothing("simulate", x -> x.simulate(from, 60));
        }
    }

    private static void saveSlotsAreNoActions() {
        document.says(EXCEPTIONS, "Ahead of the calls `save`, `restore` the interface says: ---- save slots.");
        RangeGraves x = busy();
        String before = Check.everything(x);
        x.save(0);
        x.save(1);
        Check.sameText("the state is as it was", Check.everything(x), before);
        Check.same("the actions are those of before", x.undo(), 3);
        x.restore(0);
        Check.sameText("the state of before", Check.everything(x), before);
        Check.noState("restore is no action", () -> x.undo());
    }
}
