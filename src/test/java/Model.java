import java.util.ArrayList;
import java.util.List;

/**
 * The document once more, in its most literal form and without a thought of speed: what the
 * program answers in random runs is compared with it.
 */
final class Model {
    static final int NONE = -1;

    record Write(int number, int first, int last, int value) {
        boolean concerns(int k) {
            return first <= k && k <= last;
        }

        boolean entry() {
            return value > 0;
        }
    }

    static final class State {
        List<Write> memory = new ArrayList<>();
        List<List<Write>> runs = new ArrayList<>();
        List<Integer> eyes = new ArrayList<>();
        int latest = 0;
        int fewer = 0;

        State copy() {
            State other = new State();
            other.memory = new ArrayList<>(memory);
            for (List<Write> run : runs) {
                other.runs.add(new ArrayList<>(run));
            }
            other.eyes = new ArrayList<>(eyes);
            other.latest = latest;
            other.fewer = fewer;
            return other;
        }

        List<Write> all() {
            List<Write> all = new ArrayList<>(memory);
            for (List<Write> run : runs) {
                all.addAll(run);
            }
            return all;
        }
    }

    private State now = new State();
    private List<State> remembered = new ArrayList<>();
    private final State[] slots = new State[2];
    private String text = "";

    // ---- text

    int append(int c) {
        argument(c >= 0 && c <= 255);
        state(text.length() < 120);
        text += (char) c;
        return text.length();
    }

    int clearText() {
        int length = text.length();
        text = "";
        return length;
    }

    /** Tries each beginning of the text: the error is behind the last one that can go on. */
    int errorPosition() {
        if (text.matches("G(p\\d\\d(?!000)\\d{3}|x\\d{4}|f|m[0-4]|o|c[01])*")) {
            return NONE;
        }
        int good = 0;
        while (good < text.length() && canGoOn(text.substring(0, good + 1))) {
            good++;
        }
        return good;
    }

    private static boolean canGoOn(String start) {
        String whole = "G(p\\d\\d(?!000)\\d{3}|x\\d{4}|f|m[0-4]|o|c[01])*";
        String part = "(p|p\\d|p\\d\\d|p\\d\\d\\d|p\\d\\d\\d\\d|x|x\\d|x\\d\\d|x\\d\\d\\d|m|c)?";
        return start.matches(whole + part);
    }

    int load() {
        state(errorPosition() == NONE);
        now = new State();
        slots[0] = null;
        slots[1] = null;
        int leftOut = 0;
        java.util.regex.Matcher m = java.util.regex.Pattern.compile("[a-z][0-9]*").matcher(text);
        while (m.find()) {
            String c = m.group();
            String done = Check.told(() -> command(c));
            leftOut += done.endsWith("Exception") ? 1 : 0;
        }
        remembered = new ArrayList<>();
        return leftOut;
    }

    private int command(String c) {
        switch (c.charAt(0)) {
            case 'p': return put(Integer.parseInt(c.substring(1, 3)), Integer.parseInt(c.substring(3)));
            case 'x': return bury(Integer.parseInt(c.substring(1, 3)), Integer.parseInt(c.substring(3)));
            case 'f': return flush();
            case 'm': return merge(c.charAt(1) - '0');
            case 'o': return open();
            default: return close(c.charAt(1) - '0');
        }
    }

    // ---- what there is

    int about(int what) {
        argument(what >= 0 && what <= 8);
        switch (what) {
            case 0: return now.latest;
            case 1: return now.memory.size();
            case 2: return now.runs.size();
            case 3: return now.eyes.size();
            case 4: return now.all().size();
            case 5: return (int) now.all().stream().filter(Write::entry).count();
            case 6: return seen(now);
            case 7:
                int sum = 0;
                for (int k = 0; k < 100; k++) {
                    sum += Math.max(0, get(k, NONE));
                }
                return sum;
            default: return now.fewer;
        }
    }

    private static int seen(State s) {
        int many = 0;
        for (int k = 0; k < 100; k++) {
            many += view(s, k, NONE) == NONE ? 0 : 1;
        }
        return many;
    }

    private static Write newest(State s, int k, int e) {
        Write newest = null;
        for (Write w : s.all()) {
            boolean visible = e == NONE || w.number <= s.eyes.get(e);
            if (w.concerns(k) && visible && (newest == null || w.number > newest.number)) {
                newest = w;
            }
        }
        return newest;
    }

    private static int view(State s, int k, int e) {
        Write w = newest(s, k, e);
        return w == null || !w.entry() ? NONE : w.value;
    }

    int get(int k, int e) {
        key(k);
        index(e >= NONE && e < now.eyes.size());
        return view(now, k, e);
    }

    private List<Write> place(int i) {
        index(i >= NONE && i < now.runs.size());
        return i == NONE ? now.memory : now.runs.get(i);
    }

    int run(int i, int what) {
        List<Write> writes = place(i);
        argument(what >= 0 && what <= 4);
        int entries = (int) writes.stream().filter(Write::entry).count();
        switch (what) {
            case 0: return entries;
            case 1: return writes.size() - entries;
            case 2: return writes.stream().mapToInt(Write::number).min().orElse(NONE);
            case 3: return writes.stream().mapToInt(Write::number).max().orElse(NONE);
            default:
                int keys = 0;
                for (int k = 0; k < 100; k++) {
                    int key = k;
                    keys += writes.stream().anyMatch(w -> w.concerns(key)) ? 1 : 0;
                }
                return keys;
        }
    }

    int write(int i, int j, int what) {
        List<Write> writes = place(i);
        argument(j >= 0 && what >= 0 && what <= 3);
        if (j >= writes.size()) {
            return NONE;
        }
        Write w = writes.get(j);
        return new int[] {w.number, w.first, w.last, w.value}[what];
    }

    int eye(int e) {
        index(e >= 0 && e < now.eyes.size());
        return now.eyes.get(e);
    }

    // ---- actions

    private void remember() {
        remembered.add(now.copy());
        if (remembered.size() > 14) {
            remembered.remove(0);
        }
    }

    int put(int k, int v) {
        key(k);
        argument(v >= 1 && v <= 999);
        state(now.all().size() < 48);
        remember();
        now.latest++;
        now.memory.add(new Write(now.latest, k, k, v));
        return now.latest;
    }

    int bury(int from, int to) {
        key(from);
        key(to);
        argument(from <= to);
        state(now.all().size() < 48);
        int seen = count(from, to, NONE);
        remember();
        now.latest++;
        now.memory.add(new Write(now.latest, from, to, 0));
        return seen;
    }

    int open() {
        state(now.eyes.size() < 2);
        remember();
        now.eyes.add(now.latest);
        return now.eyes.size() - 1;
    }

    int close(int e) {
        index(e >= 0 && e < now.eyes.size());
        remember();
        now.eyes.remove(e);
        return now.eyes.size();
    }

    int flush() {
        state(!now.memory.isEmpty() && now.runs.size() < 5);
        State then = now.copy();
        int left = flushed(then);
        state(then.all().size() <= 48);
        remember();
        now = then;
        return left;
    }

    private static int flushed(State s) {
        List<Write> cleaned = cleaned(s.memory, s.eyes, s.runs.isEmpty());
        s.fewer += s.memory.size() - cleaned.size();
        s.memory = new ArrayList<>();
        if (!cleaned.isEmpty()) {
            s.runs.add(0, cleaned);
        }
        return cleaned.size();
    }

    int merge(int i) {
        index(i >= 0 && i < now.runs.size());
        state(i + 1 < now.runs.size());
        State then = now.copy();
        int left = merged(then, i);
        state(then.all().size() <= 48);
        remember();
        now = then;
        return left;
    }

    private static int merged(State s, int i) {
        List<Write> both = new ArrayList<>(s.runs.get(i + 1));
        both.addAll(s.runs.get(i));
        List<Write> cleaned = cleaned(both, s.eyes, i + 2 == s.runs.size());
        s.fewer += both.size() - cleaned.size();
        s.runs.remove(i);
        s.runs.remove(i);
        if (!cleaned.isEmpty()) {
            s.runs.add(i, cleaned);
        }
        return cleaned.size();
    }

    private static boolean parted(Write one, Write newer, List<Integer> eyes) {
        for (int eye : eyes) {
            if (eye >= one.number && eye < newer.number) {
                return true;
            }
        }
        return false;
    }

    private static List<Write> cleaned(List<Write> writes, List<Integer> eyes, boolean noOlderRun) {
        List<Write> entries = new ArrayList<>();
        for (Write w : writes) {
            boolean dropped = false;
            for (Write n : writes) {
                dropped |= n.number > w.number && n.concerns(w.first) && !parted(w, n, eyes);
            }
            if (w.entry() && !dropped) {
                entries.add(w);
            }
        }
        List<Write> left = new ArrayList<>();
        for (Write w : writes) {
            if (w.entry()) {
                if (entries.contains(w)) {
                    left.add(w);
                }
                continue;
            }
            boolean[] for100 = new boolean[101];
            for (int k = w.first; k <= w.last; k++) {
                for100[k] = true;
                for (Write n : writes) {
                    if (!n.entry() && n.number > w.number && n.concerns(k) && !parted(w, n, eyes)) {
                        for100[k] = false;
                    }
                }
                boolean needed = !noOlderRun;
                for (Write n : entries) {
                    needed |= n.number < w.number && n.concerns(k);
                }
                for100[k] &= needed;
            }
            int start = NONE;
            for (int k = 0; k <= 100; k++) {
                if (for100[k] && start == NONE) {
                    start = k;
                } else if (!for100[k] && start != NONE) {
                    left.add(new Write(w.number, start, k - 1, 0));
                    start = NONE;
                }
            }
        }
        return left;
    }

    int undo() {
        state(!remembered.isEmpty());
        now = remembered.remove(remembered.size() - 1);
        return remembered.size();
    }

    // ---- looking, and what would be

    int looks(int k) {
        key(k);
        int looked = 0;
        for (int place = NONE; place < now.runs.size(); place++) {
            if (place == NONE && now.memory.isEmpty()) {
                continue;
            }
            looked++;
            for (Write w : place(place)) {
                if (w.concerns(k)) {
                    return looked;
                }
            }
        }
        return looked;
    }

    int next(int k, int e) {
        key(k);
        index(e >= NONE && e < now.eyes.size());
        for (int at = k; at < 100; at++) {
            if (get(at, e) != NONE) {
                return at;
            }
        }
        return NONE;
    }

    int count(int from, int to, int e) {
        key(from);
        key(to);
        index(e >= NONE && e < now.eyes.size());
        argument(from <= to);
        int many = 0;
        for (int k = from; k <= to; k++) {
            many += get(k, e) == NONE ? 0 : 1;
        }
        return many;
    }

    int hidden() {
        int many = 0;
        for (Write w : now.all()) {
            boolean seen = false;
            for (int e = NONE; e < now.eyes.size(); e++) {
                seen |= newest(now, w.first, e) == w;
            }
            many += w.entry() && !seen ? 1 : 0;
        }
        return many;
    }

    int grave(int k) {
        key(k);
        int newest = NONE;
        for (Write w : now.all()) {
            if (!w.entry() && w.concerns(k)) {
                newest = Math.max(newest, w.number);
            }
        }
        return newest;
    }

    int saves(int i) {
        index(i >= 0 && i < now.runs.size());
        state(i + 1 < now.runs.size());
        State then = now.copy();
        merged(then, i);
        state(then.all().size() <= 48);
        return now.all().size() - then.all().size();
    }

    int best() {
        int best = NONE;
        for (int i = 0; i < now.runs.size(); i++) {
            int run = i;
            if (Check.told(() -> saves(run)).endsWith("Exception")) {
                continue;
            }
            if (best == NONE || saves(i) > saves(best)) {
                best = i;
            }
        }
        return best;
    }

    int fewest() {
        State s = now.copy();
        s.eyes.clear();
        if (!s.memory.isEmpty()) {
            flushed(s);
        }
        while (s.runs.size() > 1) {
            merged(s, 0);
        }
        return s.all().size();
    }

    // ---- scripts, simulations

    int runScript(int n, long script) {
        argument(n >= 1 && n <= 3);
        argument(script >= 0 && Long.toString(script).length() <= 5 * n);
        String digits = "0".repeat(15) + script;
        digits = digits.substring(digits.length() - 5 * n);
        Model other = new Model();
        other.now = now.copy();
        for (int i = 0; i < n; i++) {
            String group = digits.substring(5 * i, 5 * i + 5);
            if (!Check.told(() -> other.group(group) ? 1 : 0).equals("1")) {
                return i;
            }
        }
        return NONE;
    }

    private boolean group(String g) {
        int left = Integer.parseInt(g.substring(1, 3));
        int right = Integer.parseInt(g.substring(3));
        int digit = g.charAt(1) - '0';
        if (g.startsWith("1")) {
            return put(left, right) > 0;
        } else if (g.startsWith("2")) {
            return bury(left, right) >= 0;
        } else if (g.equals("30000")) {
            return flush() >= 0;
        } else if (g.matches("4.000")) {
            return merge(digit) >= 0;
        } else if (g.equals("50000")) {
            return open() >= 0;
        } else if (g.matches("6.000")) {
            return close(digit) >= 0;
        } else if (g.startsWith("7")) {
            return Math.max(0, get(left, NONE)) == right;
        } else if (g.startsWith("800")) {
            return about(4) <= right;
        } else if (g.matches("9...0")) {
            return get(Integer.parseInt(g.substring(2, 4)), digit) != NONE;
        }
        return false;
    }

    int simulate(long seed, int m) {
        argument(m >= 1 && m <= 60);
        Model other = new Model();
        other.now = now.copy();
        long x = seed;
        for (int i = 0; i < m; i++) {
            x = x * 6364136223846793005L + 1442695040888963407L;
            int r = (int) (x >>> 33);
            Check.told(() -> other.turn(r));
        }
        return 1000 * seen(other.now) + other.now.all().size();
    }

    private int turn(int r) {
        int q = r / 8;
        switch (r % 8) {
            case 4: return bury(q % 100, Math.min(99, q % 100 + q / 128 % 20));
            case 5: return flush();
            case 6: return merge(q % 5);
            case 7: return now.eyes.size() < 2 ? open() : close(q % 2);
            default: return put(q % 100, 1 + q / 128 % 999);
        }
    }

    // ---- save slots

    int save(int slot) {
        index(slot == 0 || slot == 1);
        slots[slot] = now.copy();
        return now.all().size();
    }

    int restore(int slot) {
        index(slot == 0 || slot == 1);
        state(slots[slot] != null);
        now = slots[slot].copy();
        remembered = new ArrayList<>();
        return now.all().size();
    }

    // ---- exceptions

    private static void key(int k) {
        index(k >= 0 && k < 100);
    }

    private static void index(boolean good) {
        if (!good) {
            throw new IndexOutOfBoundsException();
        }
    }

    private static void argument(boolean good) {
        if (!good) {
            throw new IllegalArgumentException();
        }
    }

    private static void state(boolean good) {
        if (!good) {
            throw new IllegalStateException();
        }
    }
}
