/** The cleaning of writes (in the terms of the document), by which promises 15 and 16 are kept. */
public final class CleaningTest {
    public static void main(String[] arguments) {
        entriesAreDropped();
        eyesKeepEntries();
        gravesAreCut();
        eyesPartGraves();
        gravesWithoutOlderRunGo();
        gravesStayOverOlderEntries();
        piecesAreCutAgain();
        keysBeyondAWord();
        cleaningStartsAnew();
        Check.end("CleaningTest");
    }

    private static void makes(String history, String due) {
        Check.sameText(history, Check.everything(Check.loaded(history)), due);
    }

    private static void entriesAreDropped() {
        makes("Gp10005p10006f", " | 2:10=6 latest 2 fewer 1");
        makes("Gp10005x1010f", " latest 2 fewer 2");
        makes("Gp10005x1111f", " | 1:10=5 latest 2 fewer 1");
        makes("Gp10005p10006p10007p11001f", " | 3:10=7 4:11=1 latest 4 fewer 2");
        // A grave hides what is older, not what is newer.
        makes("Gx0099p10005f", " | 2:10=5 latest 2 fewer 1");
        // Runs are cleaned when they are merged, not before.
        makes("Gp10005fp10006f", " | 2:10=6 | 1:10=5 latest 2 fewer 0");
        makes("Gp10005fp10006fm0", " | 2:10=6 latest 2 fewer 1");
        makes("Gp10005fp11006fm0", " | 1:10=5 2:11=6 latest 2 fewer 0");
        makes("Gp10005fp10006", "2:10=6 | 1:10=5 latest 2 fewer 0");
    }

    private static void eyesKeepEntries() {
        makes("Gp10005op10006f", " | 1:10=5 2:10=6 eyes 1 latest 2 fewer 0");
        makes("Gop10005p10006f", " | 2:10=6 eyes 0 latest 2 fewer 1");
        makes("Gp10005p10006of", " | 2:10=6 eyes 2 latest 2 fewer 1");
        makes("Gp10005op10006c0f", " | 2:10=6 latest 2 fewer 1");
        makes("Gp10001p10002op10003p10004op10005p10006f",
                " | 2:10=2 4:10=4 6:10=6 eyes 2,4 latest 6 fewer 3");
        makes("Gp10001op10002op10003c0f", " | 2:10=2 3:10=3 eyes 2 latest 3 fewer 1");
        makes("Gp10001op10002op10003c1f", " | 1:10=1 3:10=3 eyes 1 latest 3 fewer 1");
        makes("Gp10001op10002fc0p10003fm0", " | 3:10=3 latest 3 fewer 2");
    }

    private static void gravesAreCut() {
        makes("Gp50001fx0030x1015f", " | 2:0-9 2:16-30 3:10-15 | 1:50=1 latest 3 fewer -1");
        makes("Gp50001fx0030x0010f", " | 2:11-30 3:0-10 | 1:50=1 latest 3 fewer 0");
        makes("Gp50001fx0030x2099f", " | 2:0-19 3:20-99 | 1:50=1 latest 3 fewer 0");
        makes("Gp50001fx1030x0099f", " | 3:0-99 | 1:50=1 latest 3 fewer 1");
        makes("Gp50001fx1030x1030f", " | 3:10-30 | 1:50=1 latest 3 fewer 1");
        makes("Gp50001fx1020x2130f", " | 2:10-20 3:21-30 | 1:50=1 latest 3 fewer 0");
        makes("Gp50001fx0030x0505x0707x0606f",
                " | 2:0-4 2:8-30 3:5-5 4:7-7 5:6-6 | 1:50=1 latest 5 fewer -1");
        // A newer entry hides an older one, but cuts no grave.
        makes("Gp50001fx0030p10002f", " | 2:0-30 3:10=2 | 1:50=1 latest 3 fewer 0");
        // A grave that is dropped itself has hidden older entries all the same.
        makes("Gp50001fp10002x0520x0030f", " | 4:0-30 | 1:50=1 latest 4 fewer 2");
        makes("Gp50001fx0030fx1015fm0", " | 2:0-9 2:16-30 3:10-15 | 1:50=1 latest 3 fewer -1");
    }

    private static void eyesPartGraves() {
        makes("Gp50001fx0030ox1015f", " | 2:0-30 3:10-15 | 1:50=1 eyes 2 latest 3 fewer 0");
        makes("Gp50001fox0030x1015f", " | 2:0-9 2:16-30 3:10-15 | 1:50=1 eyes 1 latest 3 fewer -1");
        makes("Gp50001fx0030x1015of", " | 2:0-9 2:16-30 3:10-15 | 1:50=1 eyes 3 latest 3 fewer -1");
        // The middle grave lies on the newer side of the eye, and cuts nothing but its own side.
        makes("Gp50001fx0030ox1025x2040f", " | 2:0-30 3:10-19 4:20-40 | 1:50=1 eyes 2 latest 4 fewer 0");
        makes("Gp50001fx0010ox0510ox0810f",
                " | 2:0-10 3:5-10 4:8-10 | 1:50=1 eyes 2,3 latest 4 fewer 0");
    }

    private static void gravesWithoutOlderRunGo() {
        makes("Gx0099f", " latest 1 fewer 1");
        makes("Gp10001fx0030fx4050f", " | 3:40-50 | 2:0-30 | 1:10=1 latest 3 fewer 0");
        // There is a run older than these two: the graves stay.
        makes("Gp10001fx0030fx4050fm0", " | 2:0-30 3:40-50 | 1:10=1 latest 3 fewer 0");
        // There is none: the entry is hidden, and then nothing is left for the grave to hide.
        makes("Gp10001fx0030fx4050fm1", " | 3:40-50 latest 3 fewer 2");
        makes("Gp10001fx0030fm0", " latest 2 fewer 2");
        makes("Gp10001fx0030fx4050fm0m0", " latest 3 fewer 3");
        makes("Gp10001fx2030fm0", " | 1:10=1 latest 2 fewer 1");
        // Nothing is left of two runs in the middle: those behind move up by two.
        makes("Gp10001fx1010fp20002fm1p30003f", " | 4:30=3 | 3:20=2 latest 4 fewer 2");
    }

    private static void gravesStayOverOlderEntries() {
        makes("Gp10001p12002ox0530f", " | 1:10=1 2:12=2 3:10-10 3:12-12 eyes 2 latest 3 fewer -1");
        makes("Gp10001p11002ox0530f", " | 1:10=1 2:11=2 3:10-11 eyes 2 latest 3 fewer 0");
        // An entry that is dropped keeps no grave, nor does one that is newer.
        makes("Gp10001p10002ox0530p20003f", " | 2:10=2 3:10-10 4:20=3 eyes 2 latest 4 fewer 1");
        makes("Gx1010p10001ox1010f", " | 2:10=1 3:10-10 eyes 2 latest 3 fewer 1");
        // The newer grave hides the entry for all, the older one lies on the eye's side.
        makes("Gp10001ox1010x1010f", " | 1:10=1 3:10-10 eyes 1 latest 3 fewer 1");
        makes("Gp10001ox1010ox1010f", " | 1:10=1 2:10-10 3:10-10 eyes 1,2 latest 3 fewer 0");
        makes("Gp10001ofx0099fm0", " | 1:10=1 2:10-10 eyes 1 latest 2 fewer 0");
    }

    private static void piecesAreCutAgain() {
        makes("Gp50001fx0030x1015fx0203fm0",
                " | 2:0-1 2:4-9 2:16-30 3:10-15 4:2-3 | 1:50=1 latest 4 fewer -2");
        makes("Gp50001fx0030x1015fx0020fm0", " | 2:21-30 4:0-20 | 1:50=1 latest 4 fewer 1");
        makes("Gp50001fx0030x1015fx0099fm0m0", " latest 4 fewer 4");
    }

    private static void keysBeyondAWord() {
        makes("Gp01001fx5080x6364f", " | 2:50-62 2:65-80 3:63-64 | 1:1=1 latest 3 fewer -1");
        makes("Gp01001fx5080x6363f", " | 2:50-62 2:64-80 3:63-63 | 1:1=1 latest 3 fewer -1");
        makes("Gp01001fx5080x6464f", " | 2:50-63 2:65-80 3:64-64 | 1:1=1 latest 3 fewer -1");
        makes("Gp01001fx0099x9999x0000f", " | 2:1-98 3:99-99 4:0-0 | 1:1=1 latest 4 fewer 0");
        makes("Gp63001p64002p99003p00004x6364f", " | 3:99=3 4:0=4 latest 5 fewer 3");
    }

    /** What an earlier cleaning left is of no account in a later one. */
    private static void cleaningStartsAnew() {
        RangeGraves x = new RangeGraves();
        x.put(20, 1);
        x.flush();
        x.undo();
        x.undo();
        x.put(10, 1);
        x.open();
        x.bury(20, 20);
        Check.same("flush", x.flush(), 1);
        Check.sameText("the grave goes", Check.everything(x), " | 1:10=1 eyes 1 latest 2 fewer 1");
    }
}
