import java.util.Random;

/** Random runs of calls, of which each answer is compared with that of the Model (promises 1 to 29). */
public final class RandomRunsTest {
    private static final int RUNS = 4000;
    /** Calls that are left for looking at all, at the end of a run. */
    private static final int LAST_LOOK = 230;

    // Corners that are rare: a run of tests that meets none of them has looked too little.
    private static int flushesTooMuch = 0;
    private static int mergesTooMuch = 0;
    private static int mergesThatCost = 0;
    private static int sixRunsOnTheWay = 0;

    private final Random random;
    private final int keys;
    private final int apart;
    private final int quietness;
    private final int pause;
    private final RangeGraves x = new RangeGraves();
    private final Model m = new Model();
    private int calls = 0;

    private RandomRunsTest(long seed) {
        random = new Random(seed);
        // Few keys make many writes for one key, many keys make graves that are cut.
        keys = new int[] {4, 10, 30, 100}[random.nextInt(4)];
        // Keys that lie apart cut a wide grave into many.
        apart = keys == 30 ? 1 + random.nextInt(3) : 1;
        quietness = new int[] {4, 8, 40}[random.nextInt(3)];
        pause = new int[] {9, 18, 36}[random.nextInt(3)];
    }

    private int pick(int bound) {
        return random.nextInt(bound);
    }

    /** A key, now and then a wrong one. */
    private int key() {
        if (pick(60) == 0) {
            return new int[] {-1, 100, Integer.MIN_VALUE, Integer.MAX_VALUE, 0, 99}[pick(6)];
        }
        return keys == 10 ? 58 + pick(10) : pick(keys) * apart;
    }

    private int place(int low, int bound) {
        if (pick(60) == 0) {
            return new int[] {Integer.MIN_VALUE, Integer.MAX_VALUE, -2, 5}[pick(4)];
        }
        return low + pick(bound - low);
    }

    private long script(int n) {
        if (pick(20) == 0) {
            long[] odd = {-1, Long.MIN_VALUE, Long.MAX_VALUE, 99999, 100000, 9999999999L, 10000000000L,
                999999999999999L, 1000000000000000L, 0};
            return odd[pick(odd.length)];
        }
        long script = 0;
        for (int i = 0; i < n; i++) {
            script = script * 100000 + group();
        }
        return script;
    }

    private int group() {
        int key = Math.floorMod(key(), 100);
        switch (pick(11)) {
            case 0: return 10000 + key * 100 + pick(100);
            case 1: return 20000 + key * 100 + Math.floorMod(key(), 100);
            case 2: return 30000 + (pick(8) == 0 ? pick(10000) : 0);
            case 3: return 40000 + pick(6) * 1000 + (pick(8) == 0 ? pick(1000) : 0);
            case 4: return 50000 + (pick(8) == 0 ? pick(10000) : 0);
            case 5: return 60000 + pick(3) * 1000 + (pick(8) == 0 ? pick(1000) : 0);
            case 6: return 70000 + key * 100 + Math.max(0, m.get(key, -1)) % 100;
            case 7: return 70000 + key * 100;
            case 8: return 80000 + (pick(8) == 0 ? pick(10000) : Math.min(99, m.about(4) + pick(5) - 2));
            case 9: return 90000 + pick(3) * 1000 + key * 10 + (pick(8) == 0 ? pick(10) : 0);
            default: return pick(100000);
        }
    }

    private String history() {
        StringBuilder text = new StringBuilder(pick(40) == 0 ? "" : "G");
        while (text.length() < 112) {
            switch (pick(8)) {
                case 0:
                case 1:
                case 2:
                    text.append(String.format("p%02d%03d", Math.floorMod(key(), 100), 1 + pick(999)));
                    break;
                case 3: text.append(String.format("x%02d%02d", pick(keys), pick(keys))); break;
                case 4: text.append('f'); break;
                case 5: text.append('m').append(pick(5)); break;
                case 6: text.append('o'); break;
                default: text.append('c').append(pick(2)); break;
            }
        }
        return text.toString();
    }

    private void typeHistory() {
        String text = history();
        if (pick(2) == 0) {
            text = text.substring(0, pick(text.length() + 1));
        }
        if (pick(3) == 0 && text.length() > 0) {
            int at = pick(text.length());
            String odd = "Gpxfmoc0123456789 q";
            text = text.substring(0, at) + odd.charAt(pick(odd.length())) + text.substring(at + 1);
        }
        for (int i = 0; i < text.length(); i++) {
            int c = text.charAt(i);
            same("append " + c, () -> x.append(c), () -> m.append(c));
        }
    }

    /** Compares two answers; the object's calls behind its 512th are not made. */
    private void same(String what, Check.Call got, Check.Call due) {
        if (calls < Check.MOST_CALLS) {
            calls++;
            Check.sameText(what, Check.told(got), Check.told(due));
        }
    }

    /** A row of keys to bury, by its last key. */
    private int lastOf(int first) {
        if (pick(10) == 0) {
            return key();
        }
        if (apart > 1) {
            return pick(4) == 0 ? 99 : first;
        }
        return Math.max(first, first + pick(pick(3) == 0 ? 60 : 6));
    }

    private void flush() {
        boolean possible = m.about(1) > 0 && m.about(2) < 5;
        int before = m.about(2);
        same("flush", () -> x.flush(), () -> m.flush());
        flushesTooMuch += possible && m.about(1) > 0 && m.about(2) == before ? 1 : 0;
    }

    private void merge(int i) {
        if (i >= 0 && i + 1 < m.about(2)) {
            String told = Check.told(() -> m.saves(i));
            mergesTooMuch += told.equals("IllegalStateException") ? 1 : 0;
            mergesThatCost += told.startsWith("-") ? 1 : 0;
        }
        same("merge " + i, () -> x.merge(i), () -> m.merge(i));
    }

    private void act() {
        int a = key();
        int b = lastOf(a);
        int v = pick(60) == 0 ? new int[] {0, 1000, -5, 999}[pick(4)] : 1 + pick(pick(2) == 0 ? 99 : 999);
        int i = place(-1, 5);
        int e = place(-1, 2);
        switch (pick(15)) {
            case 0:
            case 1:
            case 2:
            case 3:
            case 4:
                same("put " + a + " " + v, () -> x.put(a, v), () -> m.put(a, v));
                break;
            case 5:
            case 6:
            case 7:
            case 8:
                same("bury " + a + " " + b, () -> x.bury(a, b), () -> m.bury(a, b));
                break;
            case 9:
                same("open", () -> x.open(), () -> m.open());
                break;
            case 10:
                if (pick(2) == 0) {
                    same("close " + e, () -> x.close(e), () -> m.close(e));
                }
                break;
            case 11:
                if (pick(quietness) < 4) {
                    flush();
                }
                break;
            case 12:
            case 13:
                if (pick(quietness) < 4) {
                    merge(i);
                }
                break;
            default:
                actOnWhole();
                break;
        }
    }

    private void actOnWhole() {
        int slot = place(0, 2);
        switch (pick(12)) {
            case 0:
                same("save " + slot, () -> x.save(slot), () -> m.save(slot));
                break;
            case 1:
                same("restore " + slot, () -> x.restore(slot), () -> m.restore(slot));
                break;
            case 2:
                if (pick(6) == 0) {
                    same("clearText", () -> x.clearText(), () -> m.clearText());
                    typeHistory();
                    same("errorPosition", () -> x.errorPosition(), () -> m.errorPosition());
                    same("load", () -> x.load(), () -> m.load());
                }
                break;
            case 3:
                int c = new int[] {-1, 256, 0, 255, 'G', 'p'}[pick(6)];
                same("append " + c, () -> x.append(c), () -> m.append(c));
                break;
            default:
                int times = pick(8) == 0 ? 16 : 1 + pick(4);
                for (int t = 0; t < times; t++) {
                    same("undo", () -> x.undo(), () -> m.undo());
                }
                break;
        }
    }

    private void look() {
        int a = key();
        int b = pick(4) == 0 ? key() : a + pick(20);
        int e = place(-1, 3);
        int i = place(-1, 6);
        int j = pick(20) == 0 ? -1 - pick(3) : pick(12);
        int what = pick(12) - 1;
        int n = pick(30) == 0 ? new int[] {0, 4, -1, Integer.MAX_VALUE}[pick(4)] : 1 + pick(3);
        long script = script(Math.max(1, Math.min(3, n)));
        int turns = pick(30) == 0 ? new int[] {0, 61, -1, 60}[pick(4)] : 1 + pick(60);
        long seed = pick(2) == 0 ? pick(1000) : random.nextLong();
        same("about " + what, () -> x.about(what), () -> m.about(what));
        same("get " + a + " " + e, () -> x.get(a, e), () -> m.get(a, e));
        same("run " + i + " " + what, () -> x.run(i, what), () -> m.run(i, what));
        same("write " + i + " " + j + " " + what, () -> x.write(i, j, what), () -> m.write(i, j, what));
        same("eye " + e, () -> x.eye(e), () -> m.eye(e));
        same("looks " + a, () -> x.looks(a), () -> m.looks(a));
        same("next " + a + " " + e, () -> x.next(a, e), () -> m.next(a, e));
        same("count " + a + " " + b + " " + e, () -> x.count(a, b, e), () -> m.count(a, b, e));
        same("hidden", () -> x.hidden(), () -> m.hidden());
        same("grave " + a, () -> x.grave(a), () -> m.grave(a));
        same("saves " + i, () -> x.saves(i), () -> m.saves(i));
        same("best", () -> x.best(), () -> m.best());
        sixRunsOnTheWay += m.about(2) == 5 && m.about(1) > 0 ? 1 : 0;
        same("fewest", () -> x.fewest(), () -> m.fewest());
        same("runScript " + n + " " + script, () -> x.runScript(n, script), () -> m.runScript(n, script));
        if (pick(10) == 0) {
            same("simulate " + seed + " " + turns, () -> x.simulate(seed, turns), () -> m.simulate(seed, turns));
        }
    }

    /** Compares what can be seen of the two states, as far as the object's calls go. */
    private void lookAtAll() {
        for (int what = 0; what <= 8; what++) {
            int w = what;
            same("about " + w, () -> x.about(w), () -> m.about(w));
        }
        for (int place = -1; place < m.about(2); place++) {
            int i = place;
            for (int at = 0; at < 4 * 48 && m.write(i, at / 4, 0) != Model.NONE; at++) {
                int j = at / 4;
                int w = at % 4;
                same("write " + i + " " + j + " " + w, () -> x.write(i, j, w), () -> m.write(i, j, w));
            }
        }
        int start = pick(100);
        for (int at = 0; at < 300; at++) {
            int k = (start + at / 3) % 100;
            int e = at % 3 - 1;
            same("get " + k + " " + e, () -> x.get(k, e), () -> m.get(k, e));
        }
    }

    private void go() {
        for (int turn = 0; turn < Check.MOST_CALLS && calls < Check.MOST_CALLS - LAST_LOOK; turn++) {
            act();
            if (turn % pause == 0) {
                look();
            }
        }
        lookAtAll();
    }

    private static void met(String what, int times) {
        System.out.println(what + ": " + times);
        Check.same(what + " were met", times > 0 ? 1 : 0, 1);
    }

    public static void main(String[] arguments) {
        for (int seed = 0; seed < RUNS; seed++) {
            new RandomRunsTest(seed).go();
        }
        met("flushes that are too much", flushesTooMuch);
        met("merges that are too much", mergesTooMuch);
        met("merges that cost writes", mergesThatCost);
        met("memory behind which there are 5 runs, and all merged", sixRunsOnTheWay);
        Check.end("RandomRunsTest");
    }
}
