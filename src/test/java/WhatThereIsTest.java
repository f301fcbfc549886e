/** Promises 6 to 10: what there is. */
public final class WhatThereIsTest {
    private static final int NONE = RangeGraves.NONE;
    private static final int[] FAR = {Integer.MIN_VALUE, Integer.MAX_VALUE};
    // A run with a cut grave, an older one with entries, one of which the eye alone sees, and memory.
    private static final String HISTORY = "Gp10005p20006p30007fx0020ox1011fp20999x3599p98001";

    public static void main(String[] arguments) {
        promise06About();
        promise06AboutIsOfNow();
        promise07Get();
        promise07GetOfEyes();
        promise08Run();
        promise09Write();
        promise10Eye();
        lookingChangesNothing();
        Check.end("WhatThereIsTest");
    }

    private static void abouts(String history, int... due) {
        RangeGraves x = Check.loaded(history);
        for (int what = 0; what < due.length; what++) {
            Check.same(history + " about " + what, x.about(what), due[what]);
        }
    }

    private static void promise06About() {
        abouts(HISTORY, 8, 3, 2, 1, 8, 5, 3, 1007, 0);
        abouts("Gp10005p10006p10007", 3, 3, 0, 0, 3, 3, 1, 7, 0);
        abouts("Gp10005p10006p10007f", 3, 0, 1, 0, 1, 1, 1, 7, 2);
        abouts("Gx0099", 1, 1, 0, 0, 1, 0, 0, 0, 0);
        abouts("Gx0099f", 1, 0, 0, 0, 0, 0, 0, 0, 1);
        abouts("Gp00001p99999oo", 2, 2, 0, 2, 2, 2, 2, 1000, 0);
        abouts("Gp50001fx0030x1015f", 3, 0, 2, 0, 4, 1, 1, 1, -1);
        abouts("Gp50001fx0030x1015fx0099fm0m0", 4, 0, 0, 0, 0, 0, 0, 0, 4);
        Check.same("about 7 alone", Check.loaded("Gp10005p11006").about(7), 11);
        RangeGraves x = new RangeGraves();
        for (int what : new int[] {-1, 9, FAR[0], FAR[1]}) {
            Check.noArgument("about " + what, () -> x.about(what));
        }
    }

    private static void promise06AboutIsOfNow() {
        // What an eye still sees does not count.
        abouts("Gp10005p11006ox1010p11007", 4, 4, 0, 1, 4, 3, 1, 7, 0);
        RangeGraves x = Check.loaded("Gp10005p10006f");
        Check.same("about 8", x.about(8), 1);
        x.put(1, 1);
        x.put(1, 2);
        x.flush();
        Check.same("about 8 goes on", x.about(8), 2);
        x.undo();
        Check.same("about 8 is taken back", x.about(8), 1);
        x.save(0);
        x.flush();
        x.restore(0);
        Check.same("about 8 is restored", x.about(8), 1);
    }

    private static void promise07Get() {
        RangeGraves x = Check.loaded(HISTORY);
        int[] keys = {0, 10, 11, 20, 30, 35, 97, 98, 99};
        int[] now = {NONE, NONE, NONE, 999, 7, NONE, NONE, 1, NONE};
        int[] then = {NONE, NONE, NONE, NONE, 7, NONE, NONE, NONE, NONE};
        for (int i = 0; i < keys.length; i++) {
            Check.same("get " + keys[i], x.get(keys[i], NONE), now[i]);
            Check.same("get " + keys[i] + " of the eye", x.get(keys[i], 0), then[i]);
        }
        for (int k : new int[] {-1, 100, FAR[0], FAR[1]}) {
            Check.noPlace("get " + k, () -> x.get(k, NONE));
        }
        for (int e : new int[] {-2, 1, 2, FAR[0], FAR[1]}) {
            Check.noPlace("get of eye " + e, () -> x.get(0, e));
        }
    }

    private static void promise07GetOfEyes() {
        RangeGraves x = Check.loaded("Gop10001p10002ox1010p10003");
        Check.same("now", x.get(10, NONE), 3);
        Check.same("an eye of nothing", x.get(10, 0), NONE);
        Check.same("an eye of the second write", x.get(10, 1), 2);
        x.flush();
        Check.same("the first one behind flush", x.get(10, 0), NONE);
        Check.same("the second one behind flush", x.get(10, 1), 2);
        x.close(0);
        Check.same("the second one is the first one now", x.get(10, 0), 2);
        Check.noPlace("no second eye", () -> x.get(10, 1));
        x.put(10, 4);
        x.open();
        x.flush();
        x.merge(0);
        Check.same("the first one behind merge", x.get(10, 0), 2);
        Check.same("the second one behind merge", x.get(10, 1), 4);
    }

    private static void runs(RangeGraves x, int i, int... due) {
        for (int what = 0; what < due.length; what++) {
            Check.same("run " + i + " " + what, x.run(i, what), due[what]);
        }
    }

    private static void promise08Run() {
        RangeGraves x = Check.loaded(HISTORY);
        runs(x, NONE, 2, 1, 6, 8, 66);
        runs(x, 0, 0, 2, 4, 5, 21);
        runs(x, 1, 3, 0, 1, 3, 3);
        runs(new RangeGraves(), NONE, 0, 0, NONE, NONE, 0);
        runs(Check.loaded("Gp10001p10002p10003"), NONE, 3, 0, 1, 3, 1);
        runs(Check.loaded("Gp01001fx0099x3070f"), 0, 0, 3, 2, 3, 100);
        runs(Check.loaded("Gx6364p64001"), NONE, 1, 1, 1, 2, 2);
        for (int i : new int[] {-2, 2, 5, FAR[0], FAR[1]}) {
            Check.noPlace("run " + i, () -> x.run(i, 0));
            Check.noPlace("run " + i + " 9", () -> x.run(i, 9));
        }
        for (int what : new int[] {-1, 5, FAR[0], FAR[1]}) {
            Check.noArgument("run 0 " + what, () -> x.run(0, what));
            Check.noArgument("run -1 " + what, () -> x.run(NONE, what));
        }
    }

    private static void writes(RangeGraves x, int i, int j, int... due) {
        for (int what = 0; what < due.length; what++) {
            Check.same("write " + i + " " + j + " " + what, x.write(i, j, what), due[what]);
        }
    }

    private static void promise09Write() {
        RangeGraves x = Check.loaded(HISTORY);
        writes(x, NONE, 0, 6, 20, 20, 999);
        writes(x, NONE, 1, 7, 35, 99, 0);
        writes(x, NONE, 2, 8, 98, 98, 1);
        writes(x, NONE, 3, NONE, NONE, NONE, NONE);
        writes(x, 0, 0, 4, 0, 20, 0);
        writes(x, 0, 1, 5, 10, 11, 0);
        writes(x, 0, 2, NONE, NONE, NONE, NONE);
        writes(x, 1, 0, 1, 10, 10, 5);
        writes(x, 1, 2, 3, 30, 30, 7);
        writes(x, 1, 3, NONE, NONE, NONE, NONE);
        writes(x, 1, FAR[1], NONE, NONE, NONE, NONE);
        writes(new RangeGraves(), NONE, 0, NONE, NONE, NONE, NONE);
        for (int i : new int[] {-2, 2, FAR[0], FAR[1]}) {
            Check.noPlace("write " + i, () -> x.write(i, 0, 0));
            Check.noPlace("write " + i + " -1 9", () -> x.write(i, -1, 9));
        }
        for (int wrong : new int[] {-1, FAR[0]}) {
            Check.noArgument("write 0 " + wrong, () -> x.write(0, wrong, 0));
        }
        for (int what : new int[] {-1, 4, FAR[0], FAR[1]}) {
            Check.noArgument("write 0 0 " + what, () -> x.write(0, 0, what));
            Check.noArgument("write 0 77 " + what, () -> x.write(0, 77, what));
        }
    }

    private static void promise10Eye() {
        RangeGraves x = new RangeGraves();
        Check.noPlace("eye 0 of none", () -> x.eye(0));
        x.open();
        Check.same("eye ahead of all writes", x.eye(0), 0);
        x.put(1, 1);
        x.put(1, 2);
        x.open();
        Check.same("eye 0", x.eye(0), 0);
        Check.same("eye 1", x.eye(1), 2);
        x.put(1, 3);
        x.flush();
        Check.same("eye 1 later", x.eye(1), 2);
        for (int e : new int[] {NONE, 2, FAR[0], FAR[1]}) {
            Check.noPlace("eye " + e, () -> x.eye(e));
        }
        x.close(0);
        Check.same("eye 0 is what eye 1 was", x.eye(0), 2);
        Check.noPlace("eye 1 is none", () -> x.eye(1));
        x.open();
        Check.same("a new eye", x.eye(1), 3);
    }

    private static void lookingChangesNothing() {
        RangeGraves x = Check.loaded(HISTORY);
        String before = Check.everything(x);
        x.about(6);
        x.get(20, 0);
        x.run(0, 4);
        x.write(NONE, 0, 0);
        x.eye(0);
        Check.sameText("looking", Check.everything(x), before);
        Check.noState("looking is no action", () -> x.undo());
    }
}
