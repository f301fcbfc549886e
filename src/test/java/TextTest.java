/** Promises 1 to 5: a new object, and the text. */
public final class TextTest {
    private static final int NONE = RangeGraves.NONE;

    public static void main(String[] arguments) {
        promise01NewObject();
        promise02Append();
        promise03ClearText();
        promise04ErrorPosition();
        promise04ErrorPositionOfLongTexts();
        promise05Load();
        promise05LoadStartsAnew();
        promise05LoadLeavesOut();
        promise05LoadOfNoHistory();
        Check.end("TextTest");
    }

    private static void promise01NewObject() {
        RangeGraves x = new RangeGraves();
        Check.same("NONE", NONE, -1);
        for (int what = 0; what <= 8; what++) {
            Check.same("about " + what, x.about(what), 0);
        }
        for (int k = 0; k < 100; k++) {
            Check.same("get " + k, x.get(k, NONE), NONE);
        }
        Check.same("looks", x.looks(5), 0);
        Check.same("next", x.next(0, NONE), NONE);
        Check.same("count", x.count(0, 99, NONE), 0);
        Check.same("hidden", x.hidden(), 0);
        Check.same("grave", x.grave(0), NONE);
        Check.same("best", x.best(), NONE);
        Check.same("fewest", x.fewest(), 0);
        Check.same("clearText", x.clearText(), 0);
        Check.noState("undo of nothing", () -> x.undo());
        Check.noState("flush of nothing", () -> x.flush());
        Check.noPlace("eye 0", () -> x.eye(0));
        Check.noPlace("run 0", () -> x.run(0, 0));
        Check.noState("restore 0", () -> x.restore(0));
        Check.noState("restore 1", () -> x.restore(1));
        new RangeGraves().put(1, 1);
        Check.same("objects have nothing in common", x.about(4), 0);
    }

    private static void promise02Append() {
        RangeGraves x = new RangeGraves();
        Check.same("append 0", x.append(0), 1);
        Check.same("append 255", x.append(255), 2);
        for (int c : new int[] {-1, 256, Integer.MIN_VALUE, Integer.MAX_VALUE}) {
            Check.noArgument("append " + c, () -> x.append(c));
        }
        for (int length = 3; length <= 120; length++) {
            Check.same("append", x.append('f'), length);
        }
        Check.noState("append to a full text", () -> x.append('f'));
        Check.noArgument("append of no sign to a full text", () -> x.append(256));
        Check.same("length of a full text", x.clearText(), 120);
        Check.same("append after clearText", x.append('G'), 1);
        Check.same("the state of a text", x.about(4), 0);
        Check.noState("append is no action", () -> x.undo());
    }

    private static void promise03ClearText() {
        RangeGraves x = new RangeGraves();
        Check.same("clearText of nothing", x.clearText(), 0);
        Check.type(x, "Gp10005");
        Check.same("clearText", x.clearText(), 7);
        Check.same("clearText again", x.clearText(), 0);
        Check.same("errorPosition of no text", x.errorPosition(), 0);
    }

    private static void position(String text, int due) {
        RangeGraves x = new RangeGraves();
        Check.type(x, text);
        Check.same("errorPosition of " + text, x.errorPosition(), due);
        Check.same("errorPosition keeps the text", x.clearText(), text.length());
    }

    private static void promise04ErrorPosition() {
        for (String good : new String[] {"G", "Gf", "Go", "Gp00001", "Gp99999", "Gp00010", "Gp00100", "Gx0000",
            "Gx9900", "Gm0", "Gm4", "Gc0", "Gc1", "Gp12345x0199fm2oc1ffoo"}) {
            position(good, NONE);
        }
        position("", 0);
        position("g", 0);
        position("pG", 0);
        position(" G", 0);
        position("GG", 1);
        position("G ", 1);
        position("G0", 1);
        position("GP", 1);
        position("Gu", 1);
        position("Gf ", 2);
        position("Gf1", 2);
        position("Go0", 2);
        position("Gm5", 2);
        position("Gm", 2);
        position("Gm00", 3);
        position("Gc2", 2);
        position("Gc", 2);
        position("Gc10", 3);
        position("Gp", 2);
        position("Gp1", 3);
        position("Gp10", 4);
        position("Gp100", 5);
        position("Gp1000", 6);
        position("Gp10000", 6);
        position("Gp10000x", 6);
        position("Gp00000", 6);
        position("Gp1000:", 6);
        position("Gp1000/", 6);
        position("Gp100051", 7);
        position("Gpx", 2);
        position("Gp1x", 3);
        position("Gp10x", 4);
        position("Gp100f", 5);
        position("Gx", 2);
        position("Gx0", 3);
        position("Gx01", 4);
        position("Gx010", 5);
        position("Gx01o", 4);
        position("Gx01020", 6);
        position("Gp10005x1020fq", 13);
        position("Gp10005q1020fq", 7);
        position("G" + (char) 255, 1);
        position("Gm" + (char) 0, 2);
    }

    private static void promise04ErrorPositionOfLongTexts() {
        StringBuilder all = new StringBuilder("G");
        while (all.length() < 120) {
            all.append(all.length() % 2 == 0 ? 'f' : 'o');
        }
        position(all.toString(), NONE);
        position(all.substring(0, 119) + "m", 120);
        position(all.substring(0, 119) + "M", 119);
        position(all.substring(0, 116) + "p101", 120);
    }

    private static void promise05Load() {
        RangeGraves x = new RangeGraves();
        Check.type(x, "Gp10005p12345x1011op11007f");
        Check.same("load", x.load(), 0);
        Check.sameText("what load makes", Check.everything(x),
                " | 2:12=345 4:11=7 eyes 3 latest 4 fewer 2");
        Check.same("load keeps the text", x.clearText(), 26);
        Check.type(x, "Gp10001p10002fp20003fom0c0");
        Check.same("load again", x.load(), 0);
        Check.sameText("what it makes", Check.everything(x), " | 2:10=2 3:20=3 latest 3 fewer 1");
        Check.same("the same text can be loaded again", x.load(), 0);
        Check.sameText("what that makes", Check.everything(x), " | 2:10=2 3:20=3 latest 3 fewer 1");
    }

    private static void promise05LoadStartsAnew() {
        RangeGraves x = new RangeGraves();
        x.put(1, 1);
        x.save(0);
        x.flush();
        x.open();
        x.save(1);
        Check.type(x, "Gp50005");
        Check.same("load", x.load(), 0);
        Check.sameText("all is as new", Check.everything(x), "1:50=5 latest 1 fewer 0");
        Check.noState("load remembers no state", () -> x.undo());
        Check.noState("load empties slot 0", () -> x.restore(0));
        Check.noState("load empties slot 1", () -> x.restore(1));
        x.put(2, 2);
        Check.same("actions behind load are remembered", x.undo(), 0);
        Check.sameText("and taken back", Check.everything(x), "1:50=5 latest 1 fewer 0");
        Check.type(x, "G");
        Check.same("load of a bare G", x.load(), 0);
        Check.sameText("which is a new object", Check.everything(x), " latest 0 fewer 0");
    }

    private static void promise05LoadLeavesOut() {
        RangeGraves x = new RangeGraves();
        // Left out: flush of nothing, a merge, two closings, a grave that ends ahead of its start,
        // a third eye.
        Check.type(x, "Gfm0c0x2010p10001oooc1c1");
        Check.same("load", x.load(), 6);
        Check.sameText("what it makes", Check.everything(x), "1:10=1 eyes 1 latest 1 fewer 0");
        Check.type(x, "Gp01001fp02002fp03003fp04004fp05005fp06006fm4m3");
        Check.same("a sixth run and a merge of the last one", x.load(), 2);
        Check.same("runs", x.about(2), 4);
        Check.same("memory", x.about(1), 1);
    }

    private static void promise05LoadOfNoHistory() {
        RangeGraves x = new RangeGraves();
        x.put(1, 1);
        x.save(1);
        Check.type(x, "Gp1000");
        Check.noState("load of half a command", () -> x.load());
        Check.type(x, "");
        Check.noState("load of no text", () -> x.load());
        Check.sameText("nothing is different", Check.everything(x), "1:1=1 latest 1 fewer 0");
        Check.same("a state is still remembered", x.undo(), 0);
        Check.same("the slot is still filled", x.restore(1), 1);
    }
}
