/** The text (in the terms of the document), and promises 1 to 5, a sentence each. */
public final class TextTest {
    private static final int NONE = RangeGraves.NONE;
    private static final String TEXT = "TEXT";

    private static Document document;

    public static void main(String[] arguments) throws Exception {
        document = Document.of(arguments);
        buffer();
        theLetterG();
        putCommands();
        putDigits();
        buryCommands();
        flushCommands();
        mergeCommands();
        openCommands();
        closeCommands();
        commandsLeftOut();
        noBlanks();
        leftToRight();
        firstWrongSign();
        textsThatEndTooSoon();
        keysTheOtherWayRound();
        document.allSaid(TEXT);
        promise01();
        promise01KeepsNothing();
        promise02();
        promise02Codes();
        promise02Length();
        promise02CodeOutOfRange();
        promise02FullText();
        promise03();
        promise03PreviousLength();
        promise04();
        promise04Answer();
        promise05();
        promise05Behind();
        promise05KeepsTheText();
        promise05Answer();
        promise05NoHistory();
        document.allSaid(1, 5);
        Check.end("TextTest");
    }

    private static void position(String text, int due) {
        RangeGraves x = new RangeGraves();
        Check.type(x, text);
        Check.same("errorPosition of " + text, x.errorPosition(), due);
    }

    /** Loads a history, of which so many commands are left out, and which makes this. */
    private static void loads(String text, int leftOut, String due) {
        RangeGraves x = new RangeGraves();
        Check.type(x, text);
        Check.same("errorPosition of " + text, x.errorPosition(), NONE);
        Check.same("load of " + text, x.load(), leftOut);
        Check.sameText(text, Check.everything(x), due);
    }

    /** A history of so many signs that makes nothing: all its flushes are left out. */
    private static String flushes(int length) {
        return "G" + "f".repeat(length - 1);
    }

    // ---- terms: text

    private static void buffer() {
        document.says(TEXT, "The object has a text buffer of at most 120 characters.");
        position(flushes(120), NONE);
        position(flushes(119) + "m", 120);
        position(flushes(119) + "M", 119);
        RangeGraves x = new RangeGraves();
        Check.type(x, flushes(119) + "o");
        Check.noState("append of sign 121", () -> x.append('f'));
        Check.same("load of 120 signs", x.load(), 118);
        Check.same("the last command of 120 signs", x.about(3), 1);
    }

    private static void theLetterG() {
        document.says(TEXT, "A history as a text is the letter G, and then any number of commands:");
        loads("G", 0, " latest 0 fewer 0");
        loads("Go", 0, " eyes 0 latest 0 fewer 0");
        loads("Gp10001x0005fof", 1, " | 1:10=1 eyes 2 latest 2 fewer 1");
        position("", 0);
        for (String start : new String[] {"g", "f", "p10001", " G", "0G", "" + (char) 0, "" + (char) ('G' + 128)}) {
            position(start, 0);
        }
        position("GG", 1);
        position("GfG", 2);
        position("Gp10001G", 7);
    }

    private static void putCommands() {
        document.says(TEXT, "p, two digits for a key, and three for a value (001 to 999): put();");
        loads("Gp00001", 0, "1:0=1 latest 1 fewer 0");
        loads("Gp99999", 0, "1:99=999 latest 1 fewer 0");
        loads("Gp12345", 0, "1:12=345 latest 1 fewer 0");
        loads("Gp09010", 0, "1:9=10 latest 1 fewer 0");
        loads("Gp90100", 0, "1:90=100 latest 1 fewer 0");
        position("Gp00000", 6);
        position("Gp99000", 6);
        position("Gfp00000", 7);
        position("Gp00001p00000", 12);
        position("Gp00000f", 6);
    }

    private static void putDigits() {
        document.says(TEXT, "two digits for a key, and three for a value");
        for (int at = 2; at < 7; at++) {
            for (char wrong : new char[] {'0' - 1, '9' + 1, 'p', 'f', ' ', '-', 0, '1' + 128, 255}) {
                position("Gp11111".substring(0, at) + wrong + "Gp11111".substring(at + 1), at);
            }
            for (char digit : new char[] {'0', '9'}) {
                position("Gp11111".substring(0, at) + digit + "Gp11111".substring(at + 1), NONE);
            }
            position("Gp11111".substring(0, at), at);
        }
        position("Gp111111", 7);
    }

    private static void buryCommands() {
        document.says(TEXT, "x and two times two digits for keys: bury();");
        loads("Gx0000", 0, "1:0-0 latest 1 fewer 0");
        loads("Gx9999", 0, "1:99-99 latest 1 fewer 0");
        loads("Gx0099", 0, "1:0-99 latest 1 fewer 0");
        loads("Gx1234", 0, "1:12-34 latest 1 fewer 0");
        for (int at = 2; at < 6; at++) {
            for (char wrong : new char[] {'0' - 1, '9' + 1, 'x', 'f', ' ', 0, 255}) {
                position("Gx1111".substring(0, at) + wrong + "Gx1111".substring(at + 1), at);
            }
            position("Gx1111".substring(0, at), at);
        }
        position("Gx11111", 6);
    }

    private static void flushCommands() {
        document.says(TEXT, "f: flush();");
        loads("Gp10001f", 0, " | 1:10=1 latest 1 fewer 0");
        loads("Gp10001ff", 1, " | 1:10=1 latest 1 fewer 0");
        position("Gf0", 2);
        position("GF", 1);
    }

    private static void mergeCommands() {
        document.says(TEXT, "m and a digit for a run (0 to 4): merge();");
        loads("Gp10001fp20002fp30003fm0", 0, " | 2:20=2 3:30=3 | 1:10=1 latest 3 fewer 0");
        loads("Gp10001fp20002fp30003fm1", 0, " | 3:30=3 | 1:10=1 2:20=2 latest 3 fewer 0");
        loads("Gm0m1m2m3m4", 5, " latest 0 fewer 0");
        for (char wrong : new char[] {'0' - 1, '5', '9', 'm', 'f', 0, 255}) {
            position("Gm" + wrong, 2);
        }
        position("Gm", 2);
        position("Gm00", 3);
        position("GM0", 1);
    }

    private static void openCommands() {
        document.says(TEXT, "o: open();");
        loads("Gop10001o", 0, "1:10=1 eyes 0,1 latest 1 fewer 0");
        loads("Gooo", 1, " eyes 0,0 latest 0 fewer 0");
        position("Go0", 2);
        position("GO", 1);
    }

    private static void closeCommands() {
        document.says(TEXT, "c and a digit for an eye (0 or 1): close().");
        loads("Gop10001oc0", 0, "1:10=1 eyes 1 latest 1 fewer 0");
        loads("Gop10001oc1", 0, "1:10=1 eyes 0 latest 1 fewer 0");
        loads("Gc0c1", 2, " latest 0 fewer 0");
        loads("Goc1", 1, " eyes 0 latest 0 fewer 0");
        for (char wrong : new char[] {'0' - 1, '2', '9', 'c', 'f', 0, 255}) {
            position("Gc" + wrong, 2);
        }
        position("Gc", 2);
        position("Gc00", 3);
        position("GC0", 1);
    }

    private static void commandsLeftOut() {
        document.says(TEXT, "Commands that would throw an exception are left out.");
        loads("Gfp10001", 1, "1:10=1 latest 1 fewer 0");
        loads("Gx2010p10001", 1, "1:10=1 latest 1 fewer 0");
        loads("Gp10001fm0x0005", 1, "2:0-5 | 1:10=1 latest 2 fewer 0");
        loads("Goooc0", 1, " eyes 0 latest 0 fewer 0");
        // A sixth run, and the merge of the last one.
        loads("Gp01001fp02001fp03001fp04001fp05001fp06001fm4m3", 2,
                "6:6=1 | 5:5=1 | 4:4=1 | 3:3=1 | 1:1=1 2:2=1 latest 6 fewer 0");
        commandsLeftOutForTooMuch();
    }

    /** Two eyes see so many entries; of each grave over all of them as many graves are left. */
    private static String eyed(int entries) {
        StringBuilder text = new StringBuilder("G");
        for (int i = 0; i < entries; i++) {
            text.append('p').append(i / 5).append(i * 2 % 10).append("001");
        }
        return text.append("ox0099ox0099").toString();
    }

    private static void commandsLeftOutForTooMuch() {
        String[] texts = {eyed(16) + "f", eyed(16) + "fp99001", eyed(16) + "fx9999", eyed(16) + "p99001f",
            eyed(17) + "f"};
        int[] leftOut = {0, 1, 1, 1, 1};
        int[] writes = {48, 48, 48, 19, 19};
        for (int i = 0; i < texts.length; i++) {
            RangeGraves x = new RangeGraves();
            Check.type(x, texts[i]);
            Check.same("load of " + texts[i], x.load(), leftOut[i]);
            Check.same("writes of " + texts[i], x.about(4), writes[i]);
        }
    }

    private static void noBlanks() {
        document.says(TEXT, "There are no blanks.");
        position("G f", 1);
        position("Gf ", 2);
        position("Gf f", 2);
        position("Gp 10001", 2);
        position("Gp10 001", 4);
        position("Gm 0", 2);
        position("G\n", 1);
        position("G\tf", 1);
    }

    private static void leftToRight() {
        document.says(TEXT, "The text is read from left to right.");
        loads("Gp10001p10002", 0, "1:10=1 2:10=2 latest 2 fewer 0");
        loads("Gp10001fx1010", 0, "2:10-10 | 1:10=1 latest 2 fewer 0");
        loads("Gx1010fp10001", 0, "2:10=1 latest 2 fewer 1");
        position("Gfqfq", 2);
        position("Gp1q001m9", 3);
    }

    private static void firstWrongSign() {
        document.says(TEXT, "The error position is the index of the first character that these rules do not "
                + "allow at its place;");
        for (int c = 0; c < 256; c++) {
            boolean command = "pxfmoc".indexOf(c) >= 0;
            int due = !command ? 1 : c == 'f' || c == 'o' ? NONE : 2;
            position("G" + (char) c, due);
            position("Gx0101f" + (char) c, due == NONE ? NONE : due + 6);
            position("" + (char) c, c == 'G' ? NONE : 0);
        }
        position("Gp10005x1020fq", 13);
        position("Gp10005q1020fq", 7);
        position("Gu", 1);
        position("G0", 1);
    }

    private static void textsThatEndTooSoon() {
        document.says(TEXT, "if the text ends too soon, it is the length of the text.");
        position("", 0);
        String all = "Gp12345x0199m2c1";
        int[] whole = {1, 7, 12, 14, 16};
        int next = 0;
        for (int length = 1; length <= all.length(); length++) {
            boolean ends = length == whole[next];
            position(all.substring(0, length), ends ? NONE : length);
            next += ends ? 1 : 0;
        }
        position(flushes(115) + "p1234", 120);
        position(flushes(116) + "x123", 120);
        position(flushes(119) + "c", 120);
        position("Gp10000", 6);
        position("Gp1000", 6);
    }

    private static void keysTheOtherWayRound() {
        document.says(TEXT, "(Two keys whose second one is less are allowed in a text.)");
        position("Gx9900", NONE);
        position("Gx0100", NONE);
        position("Gx1009f", NONE);
        loads("Gx9900p10001", 1, "1:10=1 latest 1 fewer 0");
        loads("Gx0100x0001", 1, "1:0-1 latest 1 fewer 0");
    }

    // ---- promises

    private static void promise01() {
        document.says(1, "Creates an empty store without eyes.");
        RangeGraves x = new RangeGraves();
        for (int what = 0; what <= 8; what++) {
            Check.same("about " + what, x.about(what), 0);
        }
        for (int k = 0; k < 100; k++) {
            Check.same("get " + k, x.get(k, NONE), NONE);
        }
        Check.same("looks", x.looks(5), 0);
        Check.same("next", x.next(0, NONE), NONE);
        Check.same("count", x.count(0, 99, NONE), 0);
        Check.same("hidden", x.hidden(), 0);
        Check.same("grave", x.grave(0), NONE);
        Check.same("best", x.best(), NONE);
        Check.same("fewest", x.fewest(), 0);
        Check.same("errorPosition", x.errorPosition(), 0);
        Check.same("clearText", x.clearText(), 0);
        Check.noState("load of no text", () -> x.load());
        Check.noState("undo of nothing", () -> x.undo());
        Check.noState("flush of nothing", () -> x.flush());
        Check.noPlace("eye 0", () -> x.eye(0));
        Check.noPlace("get of eye 0", () -> x.get(0, 0));
        Check.noPlace("run 0", () -> x.run(0, 0));
        Check.noPlace("merge 0", () -> x.merge(0));
        Check.noState("restore 0", () -> x.restore(0));
        Check.noState("restore 1", () -> x.restore(1));
    }

    /** A new object, beside which another one was used. */
    private static RangeGraves besideAnother() {
        RangeGraves x = new RangeGraves();
        RangeGraves other = new RangeGraves();
        other.append('G');
        other.put(1, 1);
        other.open();
        other.save(0);
        other.flush();
        return x;
    }

    private static void promise01KeepsNothing() {
        document.says(1, "Creates an empty store");
        String before = Check.whole(() -> new RangeGraves());
        Check.sameText("objects have nothing in common", Check.whole(() -> besideAnother()), before);
    }

    private static void promise02() {
        document.says(2, "Appends a character to the text buffer.");
        RangeGraves x = new RangeGraves();
        for (int i = 0; i < 7; i++) {
            x.append("Gp10005".charAt(i));
        }
        Check.same("load", x.load(), 0);
        Check.same("get", x.get(10, NONE), 5);
        x.append('o');
        x.load();
        Check.same("eyes", x.about(3), 1);
    }

    private static void promise02Codes() {
        document.says(2, "- `c`: character code, 0 to 255");
        RangeGraves x = new RangeGraves();
        Check.same("append 0", x.append(0), 1);
        Check.same("append 255", x.append(255), 2);
        Check.same("append 128", x.append(128), 3);
        Check.same("clearText", x.clearText(), 3);
    }

    private static void promise02Length() {
        document.says(2, "Returns the new length of the text.");
        RangeGraves x = new RangeGraves();
        for (int length = 1; length <= 120; length++) {
            Check.same("append", x.append('f'), length);
        }
        x.clearText();
        Check.same("append behind clearText", x.append('f'), 1);
    }

    private static void promise02CodeOutOfRange() {
        document.says(2, "Throws `IllegalArgumentException` if c is out of range");
        RangeGraves x = new RangeGraves();
        for (int c : new int[] {-1, 256, 'G' + 256, 'G' + 65536, Integer.MIN_VALUE, Integer.MAX_VALUE}) {
            Check.noArgument("append " + c, () -> x.append(c));
        }
        Check.same("nothing was appended", x.clearText(), 0);
    }

    private static void promise02FullText() {
        document.says(2, "Throws `IllegalStateException` if the text already has 120 characters");
        RangeGraves x = new RangeGraves();
        Check.type(x, flushes(119));
        Check.same("append of the last sign", x.append('f'), 120);
        Check.noState("append of one more", () -> x.append('f'));
        Check.noState("append of one more", () -> x.append(0));
        Check.noArgument("append of no sign", () -> x.append(256));
        Check.same("the text is as it was", x.errorPosition(), NONE);
        Check.same("its length, too", x.clearText(), 120);
        Check.same("append behind clearText", x.append('G'), 1);
    }

    private static void promise03() {
        document.says(3, "Empties the text buffer.");
        RangeGraves x = new RangeGraves();
        Check.type(x, "Gp10005");
        x.clearText();
        Check.same("errorPosition of no text", x.errorPosition(), 0);
        Check.same("append", x.append('G'), 1);
        Check.same("errorPosition of a new text", x.errorPosition(), NONE);
        x.load();
        Check.same("nothing is left of the old one", x.about(0), 0);
    }

    private static void promise03PreviousLength() {
        document.says(3, "Returns the previous length of the text.");
        RangeGraves x = new RangeGraves();
        Check.same("clearText of nothing", x.clearText(), 0);
        Check.type(x, "Gp10005");
        Check.same("clearText", x.clearText(), 7);
        Check.same("clearText again", x.clearText(), 0);
        Check.type(x, flushes(120));
        Check.same("clearText of a full text", x.clearText(), 120);
    }

    private static void promise04() {
        document.says(4, "Checks the text.");
        RangeGraves x = Check.loaded("Gp10001");
        x.append('q');
        Check.same("errorPosition", x.errorPosition(), 7);
        Check.same("errorPosition again", x.errorPosition(), 7);
        Check.sameText("the state is as it was", Check.everything(x), "1:10=1 latest 1 fewer 0");
        Check.same("the text is as it was", x.clearText(), 8);
    }

    private static void promise04Answer() {
        document.says(4, "Returns the error position of the text; NONE if it is a history.");
        position("Gp12345x0199fm2oc1ffoo", NONE);
        position("Gp12345x0199fm2oc1ffoo.", 22);
        position("Gp12345x0199fm2oc1ffoom", 23);
        position("", 0);
    }

    private static void promise05() {
        document.says(5, "Makes everything as in a new object, and then does the commands of the text.");
        RangeGraves x = new RangeGraves();
        x.put(1, 1);
        x.put(1, 2);
        x.flush();
        x.open();
        x.bury(3, 4);
        Check.type(x, "Gp10005p12345x1011op11007f");
        Check.same("load", x.load(), 0);
        Check.sameText("what load makes", Check.everything(x), " | 2:12=345 4:11=7 eyes 3 latest 4 fewer 2");
        Check.type(x, "G");
        Check.same("load of a bare G", x.load(), 0);
        Check.sameText("which is a new object", Check.everything(x), " latest 0 fewer 0");
    }

    private static void promise05Behind() {
        document.says(5, "Behind it no state is remembered, and both save slots are empty.");
        RangeGraves x = new RangeGraves();
        x.put(1, 1);
        x.save(0);
        x.save(1);
        Check.type(x, "Gp50005p60006");
        x.load();
        Check.noState("undo", () -> x.undo());
        Check.noState("restore 0", () -> x.restore(0));
        Check.noState("restore 1", () -> x.restore(1));
        x.put(2, 2);
        Check.same("actions behind load are remembered", x.undo(), 0);
        Check.sameText("and taken back", Check.everything(x), "1:50=5 2:60=6 latest 2 fewer 0");
        Check.same("save behind load", x.save(0), 2);
        Check.noState("the other slot", () -> x.restore(1));
        RangeGraves y = new RangeGraves();
        for (int i = 0; i < 20; i++) {
            y.put(1, 1);
        }
        Check.type(y, "G");
        y.load();
        Check.noState("undo where 14 were remembered", () -> y.undo());
    }

    private static void promise05KeepsTheText() {
        document.says(5, "Keeps the text.");
        RangeGraves x = new RangeGraves();
        Check.type(x, "Gp10001p10002fp20003fom0c0");
        for (int i = 0; i < 3; i++) {
            Check.same("load", x.load(), 0);
            Check.sameText("what it makes", Check.everything(x), " | 2:10=2 3:20=3 latest 3 fewer 1");
        }
        Check.same("errorPosition", x.errorPosition(), NONE);
        Check.same("the length", x.clearText(), 26);
    }

    private static void promise05Answer() {
        document.says(5, "Returns the number of commands that are left out.");
        loads("G", 0, " latest 0 fewer 0");
        loads("Gf", 1, " latest 0 fewer 0");
        // A flush of nothing, a merge, a closing, a grave, a third eye, and two closings.
        loads("Gfm0c0x2010p10001oooc1c1", 6, "1:10=1 eyes 1 latest 1 fewer 0");
        RangeGraves x = new RangeGraves();
        Check.type(x, flushes(120));
        Check.same("load of flushes alone", x.load(), 119);
        Check.same("load again", x.load(), 119);
    }

    private static void promise05NoHistory() {
        document.says(5, "Throws `IllegalStateException` if the text is not a history");
        for (String text : new String[] {"", "g", "Gp1000", "Gp10000", "Gp10005q", "Gm5", "Gc2", "Gf "}) {
            RangeGraves x = new RangeGraves();
            x.put(1, 1);
            x.save(1);
            Check.type(x, text);
            Check.noState("load of " + text, () -> x.load());
            Check.sameText("nothing is different", Check.everything(x), "1:1=1 latest 1 fewer 0");
            Check.same("a state is still remembered", x.undo(), 0);
            Check.same("the slot is still filled", x.restore(1), 1);
        }
    }
}
