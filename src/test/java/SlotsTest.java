/** Promises 28 and 29, save slots, a sentence each. */
public final class SlotsTest {
    private static final int[] NO_SLOTS = {-1, 2, 3, Integer.MIN_VALUE, Integer.MAX_VALUE};

    private static Document document;

    public static void main(String[] arguments) throws Exception {
        document = Document.of(arguments);
        promise28();
        promise28Slots();
        promise28Answer();
        promise28NoSuchSlot();
        promise29();
        promise29Forgets();
        promise29TheSlotKeepsIt();
        promise29Slots();
        promise29Answer();
        promise29NoSuchSlot();
        promise29NothingSaved();
        document.allSaid(28, 29);
        Check.end("SlotsTest");
    }

    private static void promise28() {
        document.says(28, "Stores the present state in a save slot.");
        RangeGraves x = Check.loaded("Gp10001p10002fop10003fx0020p30004oo");
        String saved = Check.everything(x);
        x.put(50, 50);
        x.undo();
        x.save(0);
        Check.sameText("nothing is different", Check.everything(x), saved);
        x.flush();
        Check.same("save is no action", x.undo(), 0);
        Check.noState("nor is a state remembered by it", () -> x.undo());
        x.put(50, 50);
        x.restore(0);
        Check.sameText("what was stored", Check.everything(x), saved);
        x.put(60, 60);
        x.save(0);
        x.undo();
        x.restore(0);
        Check.same("the later save counts", x.get(60, RangeGraves.NONE), 60);
    }

    private static void promise28Slots() {
        document.says(28, "- `slot`: 0 or 1");
        RangeGraves x = new RangeGraves();
        x.save(0);
        x.put(1, 1);
        x.save(1);
        x.put(2, 2);
        Check.same("restore 0", x.restore(0), 0);
        Check.same("restore 1", x.restore(1), 1);
    }

    private static void promise28Answer() {
        document.says(28, "Returns the writes in memory and in all runs.");
        Check.same("save of a new object", new RangeGraves().save(0), 0);
        Check.same("save of memory", Check.loaded("Gp10001p10002").save(0), 2);
        Check.same("save of a run", Check.loaded("Gp10001p10002f").save(1), 1);
        Check.same("save of runs and memory", Check.loaded("Gp10001fp20001fx0030p10002").save(1), 4);
        RangeGraves x = new RangeGraves();
        for (int i = 0; i < 48; i++) {
            x.put(i, 1);
        }
        Check.same("save of 48 writes", x.save(0), 48);
        x.undo();
        Check.same("restore of them", x.restore(0), 48);
    }

    private static void promise28NoSuchSlot() {
        document.says(28, "Throws `IndexOutOfBoundsException` if there is no such save slot");
        RangeGraves x = new RangeGraves();
        for (int slot : NO_SLOTS) {
            Check.noPlace("save " + slot, () -> x.save(slot));
        }
        Check.noState("slot 0 is empty", () -> x.restore(0));
        Check.noState("slot 1 is empty", () -> x.restore(1));
    }

    private static void promise29() {
        document.says(29, "Replaces the state by the one in a save slot,");
        RangeGraves x = Check.loaded("Gp10001p10002fop10003fx0020p30004oo");
        String saved = Check.everything(x);
        x.save(0);
        x.merge(0);
        x.close(0);
        x.flush();
        x.put(50, 50);
        Check.type(x, "Gf");
        x.restore(0);
        Check.sameText("all is as it was", Check.everything(x), saved);
        Check.same("but for the text", x.clearText(), 2);
        Check.same("the numbers go on", x.put(1, 1), 6);
        x.save(1);
        RangeGraves empty = new RangeGraves();
        empty.save(1);
        empty.put(1, 1);
        empty.open();
        empty.restore(1);
        Check.sameText("an empty state", Check.everything(empty), " latest 0 fewer 0");
    }

    private static void promise29Forgets() {
        document.says(29, "and forgets all remembered states.");
        RangeGraves x = new RangeGraves();
        x.put(1, 1);
        x.save(0);
        for (int i = 0; i < 20; i++) {
            x.put(2, 2);
        }
        x.restore(0);
        Check.noState("undo", () -> x.undo());
        Check.same("writes", x.about(4), 1);
        x.put(3, 3);
        Check.same("a new state is remembered", x.undo(), 0);
        Check.same("writes", x.about(4), 1);
        RangeGraves y = new RangeGraves();
        y.put(1, 1);
        y.save(0);
        y.restore(0);
        Check.noState("undo where the state is the same", () -> y.undo());
    }

    private static void promise29TheSlotKeepsIt() {
        document.says(29, "The save slot keeps it.");
        RangeGraves x = Check.loaded("Gp10001fp20002");
        String saved = Check.everything(x);
        x.save(0);
        for (int i = 0; i < 3; i++) {
            Check.same("restore", x.restore(0), 2);
            Check.sameText("the slot keeps it", Check.everything(x), saved);
            x.put(30, 3);
            x.flush();
            x.open();
            x.merge(0);
            x.undo();
        }
    }

    private static void promise29Slots() {
        document.says(29, "- `slot`: 0 or 1");
        RangeGraves x = Check.loaded("Gp10001");
        x.save(1);
        x.put(40, 4);
        x.save(0);
        Check.same("restore 1", x.restore(1), 1);
        Check.same("restore 0", x.restore(0), 2);
        Check.same("restore 1", x.restore(1), 1);
    }

    private static void promise29Answer() {
        document.says(29, "Returns the writes in memory and in all runs then.");
        RangeGraves x = new RangeGraves();
        x.save(1);
        x.put(1, 1);
        x.put(2, 1);
        x.flush();
        x.put(3, 1);
        x.save(0);
        Check.same("restore of no writes", x.restore(1), 0);
        Check.same("restore of a run and memory", x.restore(0), 3);
    }

    private static void promise29NoSuchSlot() {
        document.says(29, "Throws `IndexOutOfBoundsException` if there is no such save slot");
        for (int filled = 0; filled <= 2; filled++) {
            RangeGraves x = new RangeGraves();
            for (int slot = 0; slot < filled; slot++) {
                x.save(slot);
            }
            x.put(1, 1);
            for (int slot : NO_SLOTS) {
                Check.noPlace("restore " + slot, () -> x.restore(slot));
            }
            Check.same("the states are not forgotten", x.undo(), 0);
        }
    }

    private static void promise29NothingSaved() {
        document.says(29, "Throws `IllegalStateException` if nothing has been saved in it since the last load");
        RangeGraves x = new RangeGraves();
        x.put(1, 1);
        Check.noState("restore 0", () -> x.restore(0));
        Check.noState("restore 1", () -> x.restore(1));
        x.save(1);
        Check.noState("restore 0 where 1 is filled", () -> x.restore(0));
        Check.same("the states are not forgotten", x.undo(), 0);
        Check.same("undo empties no slot", x.restore(1), 1);
        x.append('q');
        Check.noState("load of no history", () -> x.load());
        Check.same("which empties no slot", x.restore(1), 1);
        Check.type(x, "G");
        x.load();
        Check.noState("restore 1 behind load", () -> x.restore(1));
        x.save(0);
        Check.noState("restore 1 where 0 is filled", () -> x.restore(1));
        Check.same("restore 0", x.restore(0), 0);
    }
}
