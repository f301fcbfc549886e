/** The cleaning of writes (in the terms of the document), by which promises 15 and 16 are kept. */
public final class CleaningTest {
    private static final String CLEANING = "CLEANING";

    private static Document document;

    public static void main(String[] arguments) throws Exception {
        document = Document.of(arguments);
        partedUpToTheEye();
        partedByEitherEye();
        entriesAreDropped();
        entriesOfTheseWritesAlone();
        entriesUnderGravesThatGo();
        gravesAreCut();
        gravesOfTheseWritesAlone();
        gravesAreLookedAtAsTheyWere();
        eyesPartGraves();
        gravesWithoutOlderRunGo();
        gravesStayOverOlderEntries();
        gravesGoByKey();
        rowsOfKeys();
        piecesAreCutAgain();
        gravesForNoKey();
        orderOfWrites();
        flushing();
        flushingToNothing();
        merging();
        mergingToNothing();
        aheadIsNotOlder();
        cleaningStartsAnew();
        document.allSaid(CLEANING);
        Check.end("CleaningTest");
    }

    private static void makes(String history, String due) {
        Check.sameText(history, Check.everything(Check.loaded(history)), due);
    }

    private static void partedUpToTheEye() {
        document.says(CLEANING, "Two writes, of which the second one is newer, are parted if the number of an "
                + "open eye is not less than that of the first one, and less than that of the second one. "
                + "Some writes are cleaned so:");
        // The eye's number is less than that of both, that of the first one, between, that of the second one.
        makes("Gop10005p10006f", " | 2:10=6 eyes 0 latest 2 fewer 1");
        makes("Gp20001op10005p10006f", " | 1:20=1 3:10=6 eyes 1 latest 3 fewer 1");
        makes("Gp10005op10006f", " | 1:10=5 2:10=6 eyes 1 latest 2 fewer 0");
        makes("Gp10005p20001op10006f", " | 1:10=5 2:20=1 3:10=6 eyes 2 latest 3 fewer 0");
        makes("Gp10005p20001op20002p10006f", " | 1:10=5 2:20=1 3:20=2 4:10=6 eyes 2 latest 4 fewer 0");
        makes("Gp10005p10006of", " | 2:10=6 eyes 2 latest 2 fewer 1");
        makes("Gp10005p10006p20001of", " | 2:10=6 3:20=1 eyes 3 latest 3 fewer 1");
        // An eye that is closed parts nothing.
        makes("Gp10005op10006c0f", " | 2:10=6 latest 2 fewer 1");
    }

    private static void partedByEitherEye() {
        document.says(CLEANING, "if the number of an open eye is not less than that of the first one");
        makes("Gp10001p10002op10003p10004op10005p10006f",
                " | 2:10=2 4:10=4 6:10=6 eyes 2,4 latest 6 fewer 3");
        makes("Gp10001op10002op10003f", " | 1:10=1 2:10=2 3:10=3 eyes 1,2 latest 3 fewer 0");
        makes("Gp10001op10002op10003c0f", " | 2:10=2 3:10=3 eyes 2 latest 3 fewer 1");
        makes("Gp10001op10002op10003c1f", " | 1:10=1 3:10=3 eyes 1 latest 3 fewer 1");
        makes("Gp10001oop10002f", " | 1:10=1 2:10=2 eyes 1,1 latest 2 fewer 0");
        makes("Gp10001op10002fc0p10003fm0", " | 3:10=3 latest 3 fewer 2");
    }

    private static void entriesAreDropped() {
        document.says(CLEANING, "1. Each entry is dropped if there is a newer one among these writes, entry "
                + "or grave, that concerns its key, and from which it is not parted.");
        makes("Gp10005p10006f", " | 2:10=6 latest 2 fewer 1");
        makes("Gp10005p10006p10007p11001f", " | 3:10=7 4:11=1 latest 4 fewer 2");
        makes("Gp10005x1010f", " latest 2 fewer 2");
        makes("Gp10005x0510f", " latest 2 fewer 2");
        makes("Gp10005x1015f", " latest 2 fewer 2");
        makes("Gp10005x1111f", " | 1:10=5 latest 2 fewer 1");
        makes("Gp10005x0909f", " | 1:10=5 latest 2 fewer 1");
        makes("Gp10005p11006f", " | 1:10=5 2:11=6 latest 2 fewer 0");
        // What is older hides nothing.
        makes("Gx0099p10005f", " | 2:10=5 latest 2 fewer 1");
        // Parted from the newest one, but not from the one in the middle.
        makes("Gp10005p10006op10007f", " | 2:10=6 3:10=7 eyes 2 latest 3 fewer 1");
        makes("Gp10005x1010op10007f", " | 3:10=7 eyes 2 latest 3 fewer 2");
    }

    private static void entriesOfTheseWritesAlone() {
        document.says(CLEANING, "there is a newer one among these writes, entry or grave");
        makes("Gp10005fp10006", "2:10=6 | 1:10=5 latest 2 fewer 0");
        makes("Gp10005fp10006f", " | 2:10=6 | 1:10=5 latest 2 fewer 0");
        makes("Gp10005fp10006fm0", " | 2:10=6 latest 2 fewer 1");
        makes("Gp10005fp11006fm0", " | 1:10=5 2:11=6 latest 2 fewer 0");
        // A run and memory ahead of the two that are merged.
        makes("Gp10005fp20001fp10006fp10007m1", "4:10=7 | 3:10=6 | 1:10=5 2:20=1 latest 4 fewer 0");
    }

    private static void entriesUnderGravesThatGo() {
        document.says(CLEANING, "entry or grave, that concerns its key");
        // The grave in the middle is for no key of its own, and has hidden the entry all the same.
        makes("Gp50001fp10002x0520x0030f", " | 4:0-30 | 1:50=1 latest 4 fewer 2");
        // The entry that hides is dropped itself.
        makes("Gp10001p10002x1010op20003f", " | 4:20=3 eyes 3 latest 4 fewer 3");
    }

    private static void gravesAreCut() {
        document.says(CLEANING, "2. Each grave is for a key no longer if there is a newer grave among these "
                + "writes that concerns this key, and from which it is not parted.");
        makes("Gp50001fx0030x1015f", " | 2:0-9 2:16-30 3:10-15 | 1:50=1 latest 3 fewer -1");
        makes("Gp50001fx0030x0010f", " | 2:11-30 3:0-10 | 1:50=1 latest 3 fewer 0");
        makes("Gp50001fx0030x2099f", " | 2:0-19 3:20-99 | 1:50=1 latest 3 fewer 0");
        makes("Gp50001fx1020x2030f", " | 2:10-19 3:20-30 | 1:50=1 latest 3 fewer 0");
        makes("Gp50001fx1020x2130f", " | 2:10-20 3:21-30 | 1:50=1 latest 3 fewer 0");
        makes("Gp50001fx2130x1020f", " | 2:21-30 3:10-20 | 1:50=1 latest 3 fewer 0");
        makes("Gp50001fx2030x1020f", " | 2:21-30 3:10-20 | 1:50=1 latest 3 fewer 0");
        makes("Gp50001fx0030x0505x0707x0606f",
                " | 2:0-4 2:8-30 3:5-5 4:7-7 5:6-6 | 1:50=1 latest 5 fewer -1");
        // A newer entry hides an older one, but cuts no grave.
        makes("Gp50001fx0030p10002f", " | 2:0-30 3:10=2 | 1:50=1 latest 3 fewer 0");
        makes("Gp50001fx1010p10002f", " | 2:10-10 3:10=2 | 1:50=1 latest 3 fewer 0");
    }

    private static void gravesOfTheseWritesAlone() {
        document.says(CLEANING, "a newer grave among these writes");
        makes("Gp50001fx0030fx1015f", " | 3:10-15 | 2:0-30 | 1:50=1 latest 3 fewer 0");
        makes("Gp50001fx0030fx1015fm0", " | 2:0-9 2:16-30 3:10-15 | 1:50=1 latest 3 fewer -1");
        makes("Gp50001fx0030fp20001fx1015fm1", " | 4:10-15 | 2:0-30 3:20=1 | 1:50=1 latest 4 fewer 0");
    }

    private static void gravesAreLookedAtAsTheyWere() {
        document.says(CLEANING, "(All graves are looked at as they were.)");
        // The grave in the middle cuts the first one, though it is cut itself.
        makes("Gp50001fx0020x1030x2099f", " | 2:0-9 3:10-19 4:20-99 | 1:50=1 latest 4 fewer 0");
        makes("Gp50001fx0030x0530x1020f", " | 2:0-4 3:5-9 3:21-30 4:10-20 | 1:50=1 latest 4 fewer -1");
        // Behind the eye the newest grave is parted from the first one: that in the middle cuts it.
        makes("Gp50001fx0030x1020ox1020f", " | 2:0-9 2:21-30 3:10-20 4:10-20 | 1:50=1 eyes 3 latest 4 fewer -1");
    }

    private static void eyesPartGraves() {
        document.says(CLEANING, "concerns this key, and from which it is not parted");
        makes("Gp50001fx0030ox1015f", " | 2:0-30 3:10-15 | 1:50=1 eyes 2 latest 3 fewer 0");
        makes("Gp50001fox0030x1015f", " | 2:0-9 2:16-30 3:10-15 | 1:50=1 eyes 1 latest 3 fewer -1");
        makes("Gp50001fx0030x1015of", " | 2:0-9 2:16-30 3:10-15 | 1:50=1 eyes 3 latest 3 fewer -1");
        // The middle grave lies on the newer side of the eye, and cuts nothing but its own side.
        makes("Gp50001fx0030ox1025x2040f", " | 2:0-30 3:10-19 4:20-40 | 1:50=1 eyes 2 latest 4 fewer 0");
        makes("Gp50001fx0010ox0510ox0810f",
                " | 2:0-10 3:5-10 4:8-10 | 1:50=1 eyes 2,3 latest 4 fewer 0");
        makes("Gp50001fx0010ox0510ox0810c0f", " | 2:0-4 3:5-10 4:8-10 | 1:50=1 eyes 3 latest 4 fewer 0");
    }

    private static void gravesWithoutOlderRunGo() {
        document.says(CLEANING, "3. If there is no older run than these writes, each grave that is left is "
                + "for a key no longer, too, if no entry that was not dropped in 1 is older than it and "
                + "concerns this key.");
        makes("Gx0099f", " latest 1 fewer 1");
        makes("Gp10001fx0030fx4050f", " | 3:40-50 | 2:0-30 | 1:10=1 latest 3 fewer 0");
        // There is a run older than these two: the graves stay, though it has none of their keys.
        makes("Gp10001fx0030fx4050fm0", " | 2:0-30 3:40-50 | 1:10=1 latest 3 fewer 0");
        // There is none: the entry is hidden, and then nothing is left for the grave to hide.
        makes("Gp10001fx0030fx4050fm1", " | 3:40-50 latest 3 fewer 2");
        makes("Gp10001fx0030fm0", " latest 2 fewer 2");
        makes("Gp10001fx0030fx4050fm0m0", " latest 3 fewer 3");
        makes("Gp10001fx2030fm0", " | 1:10=1 latest 2 fewer 1");
        // There was one, and it is none any more.
        makes("Gp10001fx1010fm0x0099f", " latest 3 fewer 3");
    }

    private static void gravesStayOverOlderEntries() {
        document.says(CLEANING, "no entry that was not dropped in 1 is older than it");
        makes("Gp10001p11002ox0530f", " | 1:10=1 2:11=2 3:10-11 eyes 2 latest 3 fewer 0");
        // An entry that is dropped keeps no grave, nor does one that is newer.
        makes("Gp10001p10002ox0530p20003f", " | 2:10=2 3:10-10 4:20=3 eyes 2 latest 4 fewer 1");
        makes("Gx1010p10001ox1010f", " | 2:10=1 3:10-10 eyes 2 latest 3 fewer 1");
        makes("Gp10001op10002x1010f", " | 1:10=1 3:10-10 eyes 1 latest 3 fewer 1");
        // The newer grave hides the entry for all, the older one lies on the eye's side.
        makes("Gp10001ox1010x1010f", " | 1:10=1 3:10-10 eyes 1 latest 3 fewer 1");
        makes("Gp10001ox1010ox1010f", " | 1:10=1 2:10-10 3:10-10 eyes 1,2 latest 3 fewer 0");
        makes("Gp10001ofx0099fm0", " | 1:10=1 2:10-10 eyes 1 latest 2 fewer 0");
    }

    private static void gravesGoByKey() {
        document.says(CLEANING, "is older than it and concerns this key");
        makes("Gp10001p12002ox0530f", " | 1:10=1 2:12=2 3:10-10 3:12-12 eyes 2 latest 3 fewer -1");
        makes("Gp10001p20002ox1120f", " | 1:10=1 2:20=2 3:20-20 eyes 2 latest 3 fewer 0");
        makes("Gp10001p20002ox1019f", " | 1:10=1 2:20=2 3:10-10 eyes 2 latest 3 fewer 0");
        makes("Gp00001p99002ox0099f", " | 1:0=1 2:99=2 3:0-0 3:99-99 eyes 2 latest 3 fewer -1");
        makes("Gp10001ox0909x1111f", " | 1:10=1 eyes 1 latest 3 fewer 2");
        makes("Gp70001p80002ox6090f", " | 1:70=1 2:80=2 3:70-70 3:80-80 eyes 2 latest 3 fewer -1");
        makes("Gp70001p80002ox6075f", " | 1:70=1 2:80=2 3:70-70 eyes 2 latest 3 fewer 0");
        makes("Gp10001p63001p64001ox0099f", " | 1:10=1 2:63=1 3:64=1 4:10-10 4:63-64 eyes 3 latest 4 fewer -1");
        makes("Gp70001ox6090x7070f", " | 1:70=1 3:70-70 eyes 1 latest 3 fewer 1");
        makes("Gp20001ox0040x2020f", " | 1:20=1 3:20-20 eyes 1 latest 3 fewer 1");
    }

    private static void rowsOfKeys() {
        document.says(CLEANING, "What is left of a grave is as many graves as it has rows of keys one behind "
                + "the other, all with its number;");
        makes("Gp01001fx5080x6364f", " | 2:50-62 2:65-80 3:63-64 | 1:1=1 latest 3 fewer -1");
        makes("Gp01001fx5080x6363f", " | 2:50-62 2:64-80 3:63-63 | 1:1=1 latest 3 fewer -1");
        makes("Gp01001fx5080x6464f", " | 2:50-63 2:65-80 3:64-64 | 1:1=1 latest 3 fewer -1");
        makes("Gp01001fx0099x9999x0000f", " | 2:1-98 3:99-99 4:0-0 | 1:1=1 latest 4 fewer 0");
        makes("Gp01001fx2024x2121x2323f",
                " | 2:20-20 2:22-22 2:24-24 3:21-21 4:23-23 | 1:1=1 latest 4 fewer -2");
        // Two graves side by side stay two.
        makes("Gp01001fx2022x2325f", " | 2:20-22 3:23-25 | 1:1=1 latest 3 fewer 0");
        makes("Gp63001p64002p99003p00004x6364f", " | 3:99=3 4:0=4 latest 5 fewer 3");
    }

    private static void piecesAreCutAgain() {
        document.says(CLEANING, "What is left of a grave is as many graves as it has rows of keys one behind "
                + "the other");
        makes("Gp50001fx0030x1015fx0203fm0",
                " | 2:0-1 2:4-9 2:16-30 3:10-15 4:2-3 | 1:50=1 latest 4 fewer -2");
        makes("Gp50001fx0030x1015fx0020fm0", " | 2:21-30 4:0-20 | 1:50=1 latest 4 fewer 1");
        makes("Gp50001fx0030x1015fx0099fm0m0", " latest 4 fewer 4");
    }

    private static void gravesForNoKey() {
        document.says(CLEANING, "a grave for no key is dropped.");
        makes("Gp50001fx1030x0099f", " | 3:0-99 | 1:50=1 latest 3 fewer 1");
        makes("Gp50001fx1030x1030f", " | 3:10-30 | 1:50=1 latest 3 fewer 1");
        makes("Gp50001fx1010x1010f", " | 3:10-10 | 1:50=1 latest 3 fewer 1");
        // It is dropped where several newer ones share its keys.
        makes("Gp50001fx1012x1212x1111x1010f", " | 3:12-12 4:11-11 5:10-10 | 1:50=1 latest 5 fewer 1");
        makes("Gp10001x2030f", " | 1:10=1 latest 2 fewer 1");
    }

    private static void orderOfWrites() {
        document.says(CLEANING, "The writes are then in the order of their numbers, those with one number by "
                + "their keys.");
        makes("Gp50001fp90001x6080p10002x7070x6565p60003f",
                " | 2:90=1 3:60-64 3:66-69 3:71-80 4:10=2 5:70-70 6:65-65 7:60=3 | 1:50=1 latest 7 fewer -2");
        makes("Gp50001fp90001x6080fx7070p10002fm0",
                " | 2:90=1 3:60-69 3:71-80 4:70-70 5:10=2 | 1:50=1 latest 5 fewer -1");
    }

    private static void flushing() {
        document.says(CLEANING, "Flushing makes the writes of memory, cleaned, the newest run");
        makes("Gp10001fp20002f", " | 2:20=2 | 1:10=1 latest 2 fewer 0");
        makes("Gp10001fp20002p20003fp30004", "4:30=4 | 3:20=3 | 1:10=1 latest 4 fewer 1");
    }

    private static void flushingToNothing() {
        document.says(CLEANING, "(nothing becomes a run if nothing is left of them).");
        makes("Gx1010f", " latest 1 fewer 1");
        makes("Gp10001x1010f", " latest 2 fewer 2");
        makes("Gp10001x1010fp20002f", " | 3:20=2 latest 3 fewer 2");
        // With an older run a grave is always left.
        makes("Gp10001fp20001x2020f", " | 3:20-20 | 1:10=1 latest 3 fewer 1");
    }

    private static void merging() {
        document.says(CLEANING, "Merging two runs, one behind the other, makes the writes of both, cleaned, "
                + "one run in their place");
        String five = Check.FIVE_RUNS;
        makes(five + "m0", " | 4:4=1 5:5=1 | 3:3=1 | 2:2=1 | 1:1=1 latest 5 fewer 0");
        makes(five + "m1", " | 5:5=1 | 3:3=1 4:4=1 | 2:2=1 | 1:1=1 latest 5 fewer 0");
        makes(five + "m2", " | 5:5=1 | 4:4=1 | 2:2=1 3:3=1 | 1:1=1 latest 5 fewer 0");
        makes(five + "m3", " | 5:5=1 | 4:4=1 | 3:3=1 | 1:1=1 2:2=1 latest 5 fewer 0");
        makes(five + "p06001m3", "6:6=1 | 5:5=1 | 4:4=1 | 3:3=1 | 1:1=1 2:2=1 latest 6 fewer 0");
    }

    private static void mergingToNothing() {
        document.says(CLEANING, "(or none, if nothing is left).");
        makes("Gp10001fx1010fm0", " latest 2 fewer 2");
        makes("Gp10001fx1010fp20002fm1", " | 3:20=2 latest 3 fewer 2");
        makes("Gp10001fx1010fp20002fm1p30003f", " | 4:30=3 | 3:20=2 latest 4 fewer 2");
        makes("Gp10001fx1010fp20002fp30003fp40004", "5:40=4 | 4:30=3 | 3:20=2 | 2:10-10 | 1:10=1 latest 5 fewer 0");
        makes("Gp10001fx1010fp20002fp30003fm2p40004", "5:40=4 | 4:30=3 | 3:20=2 latest 5 fewer 2");
    }

    private static void aheadIsNotOlder() {
        document.says(CLEANING, "Runs ahead of it, or memory, are not older.");
        makes("Gp10001fx1030fp15001fp16001m1", "4:16=1 | 3:15=1 latest 4 fewer 2");
        makes("Gp10001fx1530fp16001m0", "3:16=1 | 1:10=1 latest 3 fewer 1");
    }

    /** What an earlier cleaning left is of no account in a later one. */
    private static void cleaningStartsAnew() {
        document.says(CLEANING, "Flushing makes the writes of memory, cleaned");
        RangeGraves x = new RangeGraves();
        x.put(20, 1);
        x.flush();
        x.undo();
        x.undo();
        x.put(10, 1);
        x.open();
        x.bury(20, 20);
        Check.same("flush", x.flush(), 1);
        Check.sameText("the grave goes", Check.everything(x), " | 1:10=1 eyes 1 latest 2 fewer 1");
    }
}
