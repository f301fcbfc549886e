/** What the tests share: a count of wrong answers, and the exceptions that calls throw. */
final class Check {
    interface Call {
        long answer();
    }

    /** Makes the same object each time. */
    interface Maker {
        RangeGraves make();
    }

    /** How many calls an object is used for; what later ones answer is free. */
    static final int MOST_CALLS = 512;

    /** A history that makes five runs, of a key each; its first 1 + 7 * n signs make n of them. */
    static final String FIVE_RUNS = "Gp01001fp02001fp03001fp04001fp05001f";

    private static int looked = 0;
    private static int wrong = 0;
    private static String held = "";

    private Check() {
    }

    /** Tells what the checks behind it hold to, for the lines of wrong answers. */
    static void hold(String sentence) {
        held = sentence;
    }

    static void same(String what, long got, long due) {
        sameText(what, Long.toString(got), Long.toString(due));
    }

    static void sameText(String what, String got, String due) {
        looked++;
        if (!got.equals(due)) {
            wrong++;
            String sentence = held.isEmpty() ? "" : "[" + held + "] ";
            System.out.println(sentence + what + " answered " + got + ", due is " + due);
        }
    }

    /** The answer of a call as a text: a number, or the name of what it throws. */
    static String told(Call call) {
        try {
            return Long.toString(call.answer());
        } catch (RuntimeException e) {
            return e.getClass().getSimpleName();
        }
    }

    static void noPlace(String what, Call call) {
        sameText(what, told(call), "IndexOutOfBoundsException");
    }

    static void noArgument(String what, Call call) {
        sameText(what, told(call), "IllegalArgumentException");
    }

    static void noState(String what, Call call) {
        sameText(what, told(call), "IllegalStateException");
    }

    /** Puts a text into the buffer of an object, in place of what is there. */
    static void type(RangeGraves x, String text) {
        x.clearText();
        for (int i = 0; i < text.length(); i++) {
            x.append(text.charAt(i));
        }
    }

    /** An object that did the commands of a history. */
    static RangeGraves loaded(String text) {
        RangeGraves x = new RangeGraves();
        type(x, text);
        x.load();
        return x;
    }

    /** Key 0 in the oldest run, then a grave from 1 to 99, in memory or a run, and graves that will cut it. */
    static RangeGraves cutting(int graves, boolean runBetween) {
        RangeGraves x = loaded(runBetween ? "Gp00001fx0199f" : "Gp00001fx0199");
        for (int i = 0; i < graves; i++) {
            x.bury(3 + 2 * i, 3 + 2 * i);
        }
        return x;
    }

    /** The same, the cutting graves in a run ahead of that of the grave: merge 0 cuts it. */
    static RangeGraves cuttingRuns(int graves) {
        RangeGraves x = cutting(graves, true);
        x.flush();
        return x;
    }

    /** Entries that an eye sees, each two keys behind the other: a grave over all becomes as many. */
    static RangeGraves eyed(int entries) {
        RangeGraves x = new RangeGraves();
        for (int i = 0; i < entries; i++) {
            x.put(2 * i, 1);
        }
        x.open();
        return x;
    }

    /** Writes of a run, or of memory, as a text: number:key=value or number:first-last each. */
    static String writes(RangeGraves x, int place) {
        StringBuilder all = new StringBuilder();
        int number = x.write(place, 0, 0);
        for (int j = 0; number != RangeGraves.NONE; j++) {
            all.append(j == 0 ? "" : " ").append(number).append(':').append(x.write(place, j, 1));
            int value = x.write(place, j, 3);
            all.append(value > 0 ? '=' : '-').append(value > 0 ? value : x.write(place, j, 2));
            number = x.write(place, j + 1, 0);
        }
        return all.toString();
    }

    /** Memory, all runs and all eyes, as a text. */
    static String everything(RangeGraves x) {
        StringBuilder all = new StringBuilder(writes(x, RangeGraves.NONE));
        for (int i = 0; i < x.about(2); i++) {
            all.append(" | ").append(writes(x, i));
        }
        for (int e = 0; e < x.about(3); e++) {
            all.append(e == 0 ? " eyes " : ",").append(x.eye(e));
        }
        return all.append(" latest ").append(x.about(0)).append(" fewer ").append(x.about(8)).toString();
    }

    /**
     * All that can be told of an object, with its remembered states, its save slots and its text: each
     * part is told of an object of its own, as one is used for 512 calls at most.
     */
    static String whole(Maker maker) {
        StringBuilder all = new StringBuilder(everything(maker.make()));
        for (int back = 1; back <= 15; back++) {
            all.append("; undo ").append(back).append(": ").append(undone(maker.make(), back));
        }
        for (int slot = 0; slot < 2; slot++) {
            RangeGraves x = maker.make();
            int from = slot;
            all.append("; restore ").append(told(() -> x.restore(from))).append(everything(x));
        }
        RangeGraves x = maker.make();
        all.append("; text ").append(x.errorPosition()).append(" load ").append(told(() -> x.load()));
        return all.append(everything(x)).append("; length ").append(x.clearText()).toString();
    }

    /** What the last one of so many undos answers, and everything behind it. */
    private static String undone(RangeGraves x, int times) {
        String last = "";
        for (int i = 0; i < times; i++) {
            last = told(() -> x.undo());
        }
        return last + " " + everything(x);
    }

    static void end(String name) {
        System.out.println(name + ": " + looked + " looked at, " + wrong + " wrong");
        if (wrong != 0 || looked == 0) {
            System.exit(1);
        }
    }
}
