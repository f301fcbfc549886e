/** Promises 28 and 29: save slots. */
public final class SlotsTest {
    private static final int[] NO_SLOTS = {-1, 2, Integer.MIN_VALUE, Integer.MAX_VALUE};

    public static void main(String[] arguments) {
        promise28Save();
        promise29Restore();
        promise29RestoreForgets();
        promise29RestoreOfNothing();
        promise29TheSlotKeepsIt();
        Check.end("SlotsTest");
    }

    private static void promise28Save() {
        RangeGraves x = new RangeGraves();
        Check.same("save of nothing", x.save(0), 0);
        x.put(1, 1);
        x.flush();
        x.put(2, 2);
        String before = Check.everything(x);
        Check.same("save", x.save(1), 2);
        Check.sameText("nothing is different", Check.everything(x), before);
        for (int slot : NO_SLOTS) {
            Check.noPlace("save " + slot, () -> x.save(slot));
        }
        Check.same("save is no action", x.undo(), 2);
        Check.same("save again", x.save(1), 1);
        Check.same("the slots are two", x.restore(0), 0);
        Check.same("the later save counts", x.restore(1), 1);
    }

    private static void promise29Restore() {
        RangeGraves x = Check.loaded("Gp10001p10002fop10003fx0020p30004oo");
        String saved = Check.everything(x);
        Check.same("save", x.save(0), 4);
        x.merge(0);
        x.close(0);
        x.flush();
        x.put(50, 50);
        Check.type(x, "Gf");
        Check.same("restore", x.restore(0), 4);
        Check.sameText("all is as it was", Check.everything(x), saved);
        Check.same("but for the text", x.clearText(), 2);
        Check.same("the numbers go on", x.put(1, 1), 6);
        for (int slot : NO_SLOTS) {
            Check.noPlace("restore " + slot, () -> x.restore(slot));
        }
    }

    private static void promise29RestoreForgets() {
        RangeGraves x = new RangeGraves();
        x.put(1, 1);
        x.save(0);
        x.put(2, 2);
        x.restore(0);
        Check.noState("restore forgets the states", () -> x.undo());
        Check.same("about 4", x.about(4), 1);
        x.put(3, 3);
        Check.same("a new state is remembered", x.undo(), 0);
    }

    private static void promise29RestoreOfNothing() {
        RangeGraves x = new RangeGraves();
        x.put(1, 1);
        Check.noState("restore 0", () -> x.restore(0));
        x.save(1);
        Check.noState("restore 0 when 1 is filled", () -> x.restore(0));
        Check.same("the states are not forgotten", x.undo(), 0);
        Check.same("undo empties no slot", x.restore(1), 1);
        Check.type(x, "G");
        x.load();
        Check.noState("restore 1 after load", () -> x.restore(1));
    }

    private static void promise29TheSlotKeepsIt() {
        RangeGraves x = Check.loaded("Gp10001fp20002");
        String saved = Check.everything(x);
        x.save(0);
        x.restore(0);
        x.put(30, 3);
        x.flush();
        x.open();
        x.merge(0);
        Check.same("restore", x.restore(0), 2);
        Check.sameText("the slot keeps it", Check.everything(x), saved);
        x.save(1);
        x.put(40, 4);
        x.save(0);
        Check.same("the other slot", x.restore(1), 2);
        Check.same("and this one", x.restore(0), 3);
    }
}
