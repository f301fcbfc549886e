import java.util.Arrays;

/**
 * A store of keys whose writes are never changed in place: entries, and graves for whole ranges of
 * keys, in memory and in runs, with eyes that go on seeing what was there when they were opened.
 */
public final class RangeGraves {
    /** There is no such result; as a run, memory; as an eye, now. */
    public static final int NONE = -1;

    private static final int KEYS = 100;
    private static final int MOST_VALUE = 999;
    private static final int MOST_WRITES = 48;
    private static final int MOST_RUNS = 5;
    private static final int MOST_EYES = 2;
    private static final int MOST_TEXT = 120;
    private static final int MOST_SIGN = 255;
    private static final int MOST_STATES = 14;
    private static final int SLOTS = 2;
    private static final int MOST_COMMANDS = 3;
    private static final int MOST_TURNS = 60;

    // On the way to fewest(), each key may have one grave of the newest run, beside the 48 writes.
    private static final int MOST_ON_THE_WAY = MOST_WRITES + KEYS;
    // Two eyes part the writes into three groups, and in a group each key has one grave at most.
    private static final int MOST_CLEANED = MOST_WRITES + (MOST_EYES + 1) * KEYS;

    // A group of a script has five digits.
    private static final int GROUP = 100000;

    private final Text text;
    private final Store store;
    private final Store trial;
    private final History history;
    private final Store[] slots;
    private final boolean[] filled;
    private final View view;

    /** Creates an empty store without eyes. */
    public RangeGraves() {
        Cleaner cleaner = new Cleaner();
        text = new Text();
        store = new Store(cleaner, MOST_WRITES);
        trial = new Store(cleaner, MOST_ON_THE_WAY);
        history = new History(cleaner);
        slots = new Store[SLOTS];
        for (int slot = 0; slot < SLOTS; slot++) {
            slots[slot] = new Store(cleaner, MOST_WRITES);
        }
        filled = new boolean[SLOTS];
        view = new View();
    }

    // ---- text

    /** Appends a character to the text buffer; returns the new length of the text. */
    public int append(int c) throws IllegalArgumentException, IllegalStateException {
        if (c < 0 || c > MOST_SIGN) {
            throw new IllegalArgumentException("a character code is 0 to 255");
        }
        if (text.isFull()) {
            throw new IllegalStateException("the text already has 120 characters");
        }
        text.addSign(c);
        return text.length();
    }

    /** Empties the text buffer; returns the previous length of the text. */
    public int clearText() {
        int previous = text.length();
        text.empty();
        return previous;
    }

    /** Returns the error position of the text; NONE if it is a history. */
    public int errorPosition() {
        return text.firstError();
    }

    /** Starts anew and does the commands of the text; returns how many of them are left out. */
    public int load() throws IllegalStateException {
        if (text.firstError() != NONE) {
            throw new IllegalStateException("the text is not a history");
        }
        store.empty();
        history.forgetAll();
        for (int slot = 0; slot < SLOTS; slot++) {
            filled[slot] = false;
        }
        int leftOut = 0;
        for (int at = 1; at < text.length(); at++) {
            // In a history every sign behind the G that is no digit starts a command.
            if (!text.isDigit(at) && !doTextCommand(at)) {
                leftOut++;
            }
        }
        return leftOut;
    }

    // ---- what there is

    /** Returns the number that what asks for. */
    public int about(int what) throws IllegalArgumentException {
        switch (what) {
            case 0: return store.latest();
            case 1: return store.sizeOf(NONE);
            case 2: return store.runs();
            case 3: return store.eyes();
            case 4: return store.size();
            case 5: return store.entriesIn(0, store.size());
            case 6: return seenNow(store);
            case 7:
                view.look(store, store.latest());
                return view.sum();
            case 8: return store.fewer();
            default: throw new IllegalArgumentException("what is 0 to 8");
        }
    }

    /** Returns the value that a view sees for a key; NONE if it sees nothing. */
    public int get(int k, int e) throws IndexOutOfBoundsException {
        if (!isKey(k) || !store.isView(e)) {
            throw new IndexOutOfBoundsException("no such key or eye");
        }
        int value = store.valueFor(k, store.limitOf(e));
        return value == 0 ? NONE : value;
    }

    /** Returns a number of a run, or of memory. */
    public int run(int i, int what) throws IndexOutOfBoundsException, IllegalArgumentException {
        if (!store.isPlace(i)) {
            throw new IndexOutOfBoundsException("no such run");
        }
        switch (what) {
            case 0: return store.entriesIn(store.startOf(i), store.endOf(i));
            case 1: return store.sizeOf(i) - store.entriesIn(store.startOf(i), store.endOf(i));
            case 2: return store.sizeOf(i) == 0 ? NONE : store.writes.numberAt(store.startOf(i));
            case 3: return store.sizeOf(i) == 0 ? NONE : store.writes.numberAt(store.endOf(i) - 1);
            case 4: return store.keysIn(i);
            default: throw new IllegalArgumentException("what is 0 to 4");
        }
    }

    /** Returns a number of write j of a run, or of memory; NONE if there are not so many. */
    public int write(int i, int j, int what) throws IndexOutOfBoundsException, IllegalArgumentException {
        if (!store.isPlace(i)) {
            throw new IndexOutOfBoundsException("no such run");
        }
        if (j < 0 || what < 0 || what > 3) {
            throw new IllegalArgumentException("j is not negative, and what is 0 to 3");
        }
        if (j >= store.sizeOf(i)) {
            return NONE;
        }
        int at = store.startOf(i) + j;
        switch (what) {
            case 0: return store.writes.numberAt(at);
            case 1: return store.writes.firstAt(at);
            case 2: return store.writes.lastAt(at);
            default: return store.writes.valueAt(at);
        }
    }

    /** Returns the number of an eye. */
    public int eye(int e) throws IndexOutOfBoundsException {
        if (!store.isEye(e)) {
            throw new IndexOutOfBoundsException("no such eye");
        }
        return store.limitOf(e);
    }

    // ---- actions

    /** Writes an entry; returns its number. */
    public int put(int k, int v)
            throws IndexOutOfBoundsException, IllegalArgumentException, IllegalStateException {
        if (!isKey(k)) {
            throw new IndexOutOfBoundsException("no such key");
        }
        if (!isValue(v)) {
            throw new IllegalArgumentException("a value is 1 to 999");
        }
        if (store.isFull()) {
            throw new IllegalStateException("there are 48 writes");
        }
        history.remember(store);
        store.addWrite(k, k, v);
        return store.latest();
    }

    /** Writes a grave; returns for how many keys of it something is seen now, ahead of it. */
    public int bury(int from, int to)
            throws IndexOutOfBoundsException, IllegalArgumentException, IllegalStateException {
        if (!isKey(from) || !isKey(to)) {
            throw new IndexOutOfBoundsException("no such key");
        }
        if (to < from) {
            throw new IllegalArgumentException("the last key is less than the first one");
        }
        if (store.isFull()) {
            throw new IllegalStateException("there are 48 writes");
        }
        history.remember(store);
        view.look(store, store.latest());
        store.addWrite(from, to, 0);
        return view.seenIn(from, to);
    }

    /** Opens an eye; returns its number, as an eye. */
    public int open() throws IllegalStateException {
        if (!store.canOpen()) {
            throw new IllegalStateException("2 eyes are open");
        }
        history.remember(store);
        store.addEye();
        return store.eyes() - 1;
    }

    /** Closes an eye; returns how many are open then. */
    public int close(int e) throws IndexOutOfBoundsException {
        if (!store.isEye(e)) {
            throw new IndexOutOfBoundsException("no such eye");
        }
        history.remember(store);
        store.dropEye(e);
        return store.eyes();
    }

    /** Flushes memory; returns how many writes became a run. */
    public int flush() throws IllegalStateException {
        if (!store.canFlush()) {
            throw new IllegalStateException("memory is empty, there are 5 runs, or it is too much");
        }
        history.remember(store);
        return store.flushMemory();
    }

    /** Merges a run with the one behind it; returns how many writes the merged run has. */
    public int merge(int i) throws IndexOutOfBoundsException, IllegalStateException {
        if (!store.isRun(i)) {
            throw new IndexOutOfBoundsException("no such run");
        }
        if (!store.canMerge(i)) {
            throw new IllegalStateException("there is no run behind it, or it is too much");
        }
        history.remember(store);
        return store.mergeRuns(i);
    }

    /** Takes back the last action that is remembered; returns how many states still are. */
    public int undo() throws IllegalStateException {
        if (history.size() == 0) {
            throw new IllegalStateException("no state is remembered");
        }
        history.takeBack(store);
        return history.size();
    }

    // ---- looking, and what would be

    /** Returns in how many places one has to look for a key now. */
    public int looks(int k) throws IndexOutOfBoundsException {
        if (!isKey(k)) {
            throw new IndexOutOfBoundsException("no such key");
        }
        int newest = store.newestFor(k, store.latest());
        int looked = 0;
        for (int place = NONE; place < store.runs(); place++) {
            if (store.sizeOf(place) > 0) {
                looked++;
            }
            if (newest != NONE && newest >= store.startOf(place)) {
                return looked;
            }
        }
        return looked;
    }

    /** Returns the lowest key, not less than k, for which the view sees something; or NONE. */
    public int next(int k, int e) throws IndexOutOfBoundsException {
        if (!isKey(k) || !store.isView(e)) {
            throw new IndexOutOfBoundsException("no such key or eye");
        }
        view.look(store, store.limitOf(e));
        return view.firstSeen(k);
    }

    /** Returns for how many of these keys the view sees something. */
    public int count(int from, int to, int e) throws IndexOutOfBoundsException, IllegalArgumentException {
        if (!isKey(from) || !isKey(to) || !store.isView(e)) {
            throw new IndexOutOfBoundsException("no such key or eye");
        }
        if (to < from) {
            throw new IllegalArgumentException("the last key is less than the first one");
        }
        view.look(store, store.limitOf(e));
        return view.seenIn(from, to);
    }

    /** Returns how many entries no view sees. */
    public int hidden() {
        int unseen = 0;
        for (int j = 0; j < store.size(); j++) {
            if (store.writes.isEntry(j) && !store.isSeen(j)) {
                unseen++;
            }
        }
        return unseen;
    }

    /** Returns the number of the newest grave that concerns a key; NONE if there is none. */
    public int grave(int k) throws IndexOutOfBoundsException {
        if (!isKey(k)) {
            throw new IndexOutOfBoundsException("no such key");
        }
        for (int j = store.size() - 1; j >= 0; j--) {
            if (!store.writes.isEntry(j) && store.writes.concerns(j, k)) {
                return store.writes.numberAt(j);
            }
        }
        return NONE;
    }

    /** Returns how many writes would become fewer by a merge. */
    public int saves(int i) throws IndexOutOfBoundsException, IllegalStateException {
        if (!store.isRun(i)) {
            throw new IndexOutOfBoundsException("no such run");
        }
        if (!store.canMerge(i)) {
            throw new IllegalStateException("there is no run behind it, or it is too much");
        }
        return store.savedBy(i);
    }

    /** Returns the run whose merge saves most, of several the lowest; NONE if none is possible. */
    public int best() {
        int found = NONE;
        int most = 0;
        for (int i = 0; i < store.runs(); i++) {
            if (store.canMerge(i) && (found == NONE || store.savedBy(i) > most)) {
                found = i;
                most = store.savedBy(i);
            }
        }
        return found;
    }

    /** Returns how few writes would be left without eyes, when all is flushed and merged. */
    public int fewest() {
        trial.become(store);
        trial.dropAllEyes();
        if (trial.sizeOf(NONE) > 0) {
            trial.flushMemory();
        }
        for (int turn = 0; turn <= MOST_RUNS && trial.runs() > 1; turn++) {
            trial.mergeRuns(0);
        }
        return trial.size();
    }

    // ---- scripts, simulations

    /** Runs a script on a copy of the state; returns the index of the first command that fails. */
    public int runScript(int n, long script) throws IllegalArgumentException {
        if (n < 1 || n > MOST_COMMANDS) {
            throw new IllegalArgumentException("a script has 1 to 3 commands");
        }
        if (script < 0 || withoutLast(n, script) > 0) {
            throw new IllegalArgumentException("a script is a number of at most 5 * n digits");
        }
        trial.become(store);
        for (int at = 0; at < n; at++) {
            int group = (int) (withoutLast(n - 1 - at, script) % GROUP);
            if (!doGroup(group)) {
                return at;
            }
        }
        return NONE;
    }

    /** Simulates m turns on a copy of the state; returns 1000 * keys seen + writes at the end. */
    public int simulate(long seed, int m) throws IllegalArgumentException {
        if (m < 1 || m > MOST_TURNS) {
            throw new IllegalArgumentException("there are 1 to 60 turns");
        }
        trial.become(store);
        long x = seed;
        for (int turn = 0; turn < m; turn++) {
            x = x * 6364136223846793005L + 1442695040888963407L;
            doTurn((int) (x >>> 33));
        }
        return 1000 * seenNow(trial) + trial.size();
    }

    // ---- save slots

    /** Stores the present state in a save slot; returns the writes in memory and in all runs. */
    public int save(int slot) throws IndexOutOfBoundsException {
        if (slot < 0 || slot >= SLOTS) {
            throw new IndexOutOfBoundsException("no such save slot");
        }
        slots[slot].become(store);
        filled[slot] = true;
        return store.size();
    }

    /** Replaces the state by the one in a save slot; returns the writes in memory and in all runs. */
    public int restore(int slot) throws IndexOutOfBoundsException, IllegalStateException {
        if (slot < 0 || slot >= SLOTS) {
            throw new IndexOutOfBoundsException("no such save slot");
        }
        if (!filled[slot]) {
            throw new IllegalStateException("nothing has been saved in this slot");
        }
        store.become(slots[slot]);
        history.forgetAll();
        return store.size();
    }

    // ---- helpers

    private static boolean isKey(int k) {
        return k >= 0 && k < KEYS;
    }

    private static boolean isValue(int v) {
        return v >= 1 && v <= MOST_VALUE;
    }

    private int seenNow(Store of) {
        view.look(of, of.latest());
        return view.seenIn(0, KEYS - 1);
    }

    /** Does the command of the text that starts at this index; false if it has to be left out. */
    private boolean doTextCommand(int at) {
        switch (text.signAt(at)) {
            case 'p': return store.tryPut(text.digitsAt(at + 1, 2), text.digitsAt(at + 3, 3));
            case 'x': return store.tryBury(text.digitsAt(at + 1, 2), text.digitsAt(at + 3, 2));
            case 'f': return store.tryFlush();
            case 'm': return store.tryMerge(text.digitsAt(at + 1, 1));
            case 'o': return store.tryOpen();
            case 'c': return store.tryClose(text.digitsAt(at + 1, 1));
            default: return false;
        }
    }

    /** What is left of a script ahead of so many last groups. */
    private static long withoutLast(int groups, long script) {
        long ahead = script;
        for (int i = 0; i < groups; i++) {
            ahead /= GROUP;
        }
        return ahead;
    }

    /** Does a group of a script on the copy; false if it fails. */
    private boolean doGroup(int group) {
        int digit = group / 1000 % 10;
        int lowThree = group % 1000;
        int left = group / 100 % 100;
        int right = group % 100;
        switch (group / 10000) {
            case 1: return trial.tryPut(left, right);
            case 2: return trial.tryBury(left, right);
            case 3: return group % 10000 == 0 && trial.tryFlush();
            case 4: return lowThree == 0 && trial.tryMerge(digit);
            case 5: return group % 10000 == 0 && trial.tryOpen();
            case 6: return lowThree == 0 && trial.tryClose(digit);
            case 7: return trial.valueFor(left, trial.latest()) == right;
            case 8: return left == 0 && trial.size() <= right;
            case 9: return group % 10 == 0 && trial.isEye(digit)
                    && trial.valueFor(lowThree / 10, trial.limitOf(digit)) != 0;
            default: return false;
        }
    }

    /** Does a turn of a simulation on the copy; what would throw an exception is left out. */
    private void doTurn(int r) {
        int q = r / 8;
        int key = q % KEYS;
        switch (r % 8) {
            case 4:
                trial.tryBury(key, Math.min(KEYS - 1, key + q / 128 % 20));
                break;
            case 5:
                trial.tryFlush();
                break;
            case 6:
                trial.tryMerge(q % 5);
                break;
            case 7:
                if (!trial.tryOpen()) {
                    trial.tryClose(q % 2);
                }
                break;
            default:
                trial.tryPut(key, 1 + q / 128 % 999);
                break;
        }
    }

    // ---- classes

    /** The text buffer, and the rules of a history as a text. */
    private static final class Text {
        private final int[] signs = new int[MOST_TEXT];
        private int length;

        int length() {
            return length;
        }

        boolean isFull() {
            return length >= signs.length;
        }

        void addSign(int c) {
            if (length < signs.length) {
                signs[length] = c;
                length++;
            }
        }

        void empty() {
            length = 0;
        }

        /** The sign at an index; NONE where there is none. */
        int signAt(int at) {
            return at >= 0 && at < length ? signs[at] : NONE;
        }

        boolean isDigit(int at) {
            return signAt(at) >= '0' && signAt(at) <= '9';
        }

        /** The decimal number of so many digits. */
        int digitsAt(int at, int many) {
            int number = 0;
            for (int i = 0; i < many; i++) {
                number = number * 10 + (signAt(at + i) - '0');
            }
            return number;
        }

        /** The index of the first sign that the rules do not allow; NONE in a history. */
        int firstError() {
            if (signAt(0) != 'G') {
                return 0;
            }
            int start = 0;
            int due = 0;
            for (int at = 1; at < length; at++) {
                if (due == 0) {
                    start = at;
                    due = digitsOf(signAt(at));
                    if (due == NONE) {
                        return at;
                    }
                } else if (digitFits(start, at)) {
                    due--;
                } else {
                    return at;
                }
            }
            return due > 0 ? length : NONE;
        }

        /** How many digits the command of this letter has; NONE if it is none. */
        private static int digitsOf(int letter) {
            switch (letter) {
                case 'p': return 5;
                case 'x': return 4;
                case 'm': return 1;
                case 'c': return 1;
                case 'f': return 0;
                case 'o': return 0;
                default: return NONE;
            }
        }

        /** Whether the sign at an index may be a digit of the command that begins at start. */
        private boolean digitFits(int start, int at) {
            if (!isDigit(at)) {
                return false;
            }
            switch (signAt(start)) {
                case 'm': return signAt(at) <= '4';
                case 'c': return signAt(at) <= '1';
                // Only the last digit of a value can show that the value is 000.
                case 'p': return at < start + 5 || digitsAt(start + 3, 3) > 0;
                default: return true;
            }
        }
    }

    /** Writes in the order of their numbers; a grave is a write of the value 0. */
    private static final class Writes {
        private final int[] numbers;
        private final int[] firsts;
        private final int[] lasts;
        private final int[] values;
        private int size;

        Writes(int most) {
            int length = Math.max(most, 0);
            numbers = new int[length];
            firsts = new int[length];
            lasts = new int[length];
            values = new int[length];
        }

        int size() {
            return size;
        }

        void empty() {
            size = 0;
        }

        void add(int number, int first, int last, int value) {
            if (size < numbers.length) {
                numbers[size] = number;
                firsts[size] = first;
                lasts[size] = last;
                values[size] = value;
                size++;
            }
        }

        int numberAt(int j) {
            return j >= 0 && j < size ? numbers[j] : NONE;
        }

        int firstAt(int j) {
            return j >= 0 && j < size ? firsts[j] : NONE;
        }

        int lastAt(int j) {
            return j >= 0 && j < size ? lasts[j] : NONE;
        }

        int valueAt(int j) {
            return j >= 0 && j < size ? values[j] : 0;
        }

        boolean isEntry(int j) {
            return j >= 0 && j < size && values[j] > 0;
        }

        boolean concerns(int j, int k) {
            return j >= 0 && j < size && firsts[j] <= k && k <= lasts[j];
        }

        /** Puts all writes of another list in place of those from an index up to another one. */
        void replace(int from, int to, Writes by) {
            int rest = size - to;
            int behind = from + by.size;
            if (from < 0 || to < from || rest < 0 || behind + rest > numbers.length) {
                return;
            }
            System.arraycopy(numbers, to, numbers, behind, rest);
            System.arraycopy(firsts, to, firsts, behind, rest);
            System.arraycopy(lasts, to, lasts, behind, rest);
            System.arraycopy(values, to, values, behind, rest);
            System.arraycopy(by.numbers, 0, numbers, from, by.size);
            System.arraycopy(by.firsts, 0, firsts, from, by.size);
            System.arraycopy(by.lasts, 0, lasts, from, by.size);
            System.arraycopy(by.values, 0, values, from, by.size);
            size = behind + rest;
        }
    }

    /** A set of keys. */
    private static final class Keys {
        private static final int WORD = 64;

        private long low;
        private long high;

        void empty() {
            low = 0;
            high = 0;
        }

        /** Adds the keys from first to last, both of them 0 to 99. */
        void addRow(int first, int last) {
            if (first < WORD) {
                low |= (-1L << first) & (-1L >>> (WORD - 1 - Math.min(last, WORD - 1)));
            }
            if (last >= WORD) {
                high |= (-1L << Math.max(first - WORD, 0)) & (-1L >>> (2 * WORD - 1 - last));
            }
        }

        void addAll(Keys others) {
            low |= others.low;
            high |= others.high;
        }

        void removeAll(Keys others) {
            low &= ~others.low;
            high &= ~others.high;
        }

        void keepOnly(Keys others) {
            low &= others.low;
            high &= others.high;
        }

        boolean has(int k) {
            if (k < 0 || k >= KEYS) {
                return false;
            }
            long word = k < WORD ? low >>> k : high >>> (k - WORD);
            return (word & 1) != 0;
        }

        int size() {
            return Long.bitCount(low) + Long.bitCount(high);
        }
    }

    /** Cleans writes that stand one behind the other in a store. */
    private static final class Cleaner {
        private final Writes result = new Writes(MOST_CLEANED);
        private final Keys[] left = new Keys[MOST_ON_THE_WAY];
        private final Keys newerWrites = new Keys();
        private final Keys newerGraves = new Keys();
        private final Keys olderEntries = new Keys();

        Cleaner() {
            for (int i = 0; i < left.length; i++) {
                left[i] = new Keys();
            }
        }

        /**
         * Makes the writes of some places of a store, from a newer to an older one, cleaned, the
         * result; the store stays as it is. Returns how many are left.
         */
        int clean(Store store, int newer, int older) {
            result.empty();
            int from = store.startOf(older);
            int to = store.endOf(newer);
            if (from < 0 || to > left.length) {
                return 0;
            }
            dropHidden(store, from, to);
            if (older == store.runs() - 1) {
                dropNeedless(store.writes, from, to);
            }
            for (int j = from; j < to; j++) {
                addRows(store.writes, j);
            }
            return result.size();
        }

        /**
         * Leaves each write the keys for which no newer one hides it (steps 1 and 2 of cleaning).
         * Two writes are parted if more eyes lie before the newer one than before the older one:
         * where the eyes before a write are fewer, all newer writes can be forgotten.
         */
        private void dropHidden(Store store, int from, int to) {
            Writes writes = store.writes;
            int group = NONE;
            for (int j = to - 1; j >= from; j--) {
                if (store.eyesBefore(writes.numberAt(j)) != group) {
                    group = store.eyesBefore(writes.numberAt(j));
                    newerWrites.empty();
                    newerGraves.empty();
                }
                left[j].empty();
                left[j].addRow(writes.firstAt(j), writes.lastAt(j));
                if (writes.isEntry(j)) {
                    left[j].removeAll(newerWrites);
                } else {
                    left[j].removeAll(newerGraves);
                    newerGraves.addRow(writes.firstAt(j), writes.lastAt(j));
                }
                newerWrites.addRow(writes.firstAt(j), writes.lastAt(j));
            }
        }

        /** Leaves each grave just the keys with an older entry that is left (step 3 of cleaning). */
        private void dropNeedless(Writes writes, int from, int to) {
            olderEntries.empty();
            for (int j = from; j < to; j++) {
                if (writes.isEntry(j)) {
                    olderEntries.addAll(left[j]);
                } else {
                    left[j].keepOnly(olderEntries);
                }
            }
        }

        /** Adds a write to the result for each row of keys that it is left. */
        private void addRows(Writes writes, int j) {
            Keys keys = left[j];
            int last = writes.lastAt(j);
            int start = writes.firstAt(j);
            for (int k = start; k <= last; k++) {
                if (!keys.has(k)) {
                    start = k + 1;
                } else if (k == last || !keys.has(k + 1)) {
                    result.add(writes.numberAt(j), start, k, writes.valueAt(j));
                }
            }
        }
    }

    /** The state: writes in memory and in runs, and eyes. */
    private static final class Store {
        private final Cleaner cleaner;
        /** All writes from the oldest run to memory: this is the order of their numbers, too. */
        private final Writes writes;
        /** Where each run ends in the writes, the oldest run first. */
        private final int[] ends = new int[MOST_RUNS + 1];
        private final int[] eyeNumbers = new int[MOST_EYES];
        private int runs;
        private int eyes;
        private int latest;
        private int fewer;

        Store(Cleaner with, int most) {
            cleaner = with;
            writes = new Writes(most);
        }

        void empty() {
            writes.empty();
            runs = 0;
            eyes = 0;
            latest = 0;
            fewer = 0;
        }

        /** Becomes a copy of another state. */
        void become(Store other) {
            writes.replace(0, writes.size(), other.writes);
            System.arraycopy(other.ends, 0, ends, 0, ends.length);
            System.arraycopy(other.eyeNumbers, 0, eyeNumbers, 0, eyeNumbers.length);
            runs = other.runs;
            eyes = other.eyes;
            latest = other.latest;
            fewer = other.fewer;
        }

        int size() {
            return writes.size();
        }

        boolean isFull() {
            return writes.size() >= MOST_WRITES;
        }

        int runs() {
            return runs;
        }

        int eyes() {
            return eyes;
        }

        int latest() {
            return latest;
        }

        /** How many writes became fewer by flushing and merging so far. */
        int fewer() {
            return fewer;
        }

        // ---- places: a run, or NONE for memory

        boolean isRun(int i) {
            return i >= 0 && i < runs;
        }

        boolean isPlace(int i) {
            return i == NONE || isRun(i);
        }

        /** The index of the first write of a place. */
        int startOf(int place) {
            // Runs are numbered from the newest one, which stands just ahead of memory.
            int older = runs - 2 - place;
            return older >= 0 && older < runs ? ends[older] : 0;
        }

        /** The index behind the last write of a place. */
        int endOf(int place) {
            int own = runs - 1 - place;
            return own >= 0 && own < runs ? ends[own] : writes.size();
        }

        int sizeOf(int place) {
            return endOf(place) - startOf(place);
        }

        int entriesIn(int from, int to) {
            int entries = 0;
            for (int j = from; j < to; j++) {
                if (writes.isEntry(j)) {
                    entries++;
                }
            }
            return entries;
        }

        int keysIn(int place) {
            Keys keys = new Keys();
            for (int j = startOf(place); j < endOf(place); j++) {
                keys.addRow(writes.firstAt(j), writes.lastAt(j));
            }
            return keys.size();
        }

        // ---- eyes and views

        boolean isEye(int e) {
            return e >= 0 && e < eyes;
        }

        boolean isView(int e) {
            return e == NONE || isEye(e);
        }

        /** The highest number of a write that a view sees. */
        int limitOf(int e) {
            return isEye(e) ? eyeNumbers[e] : latest;
        }

        /** How many eyes have a number less than that of a write. */
        int eyesBefore(int number) {
            int before = 0;
            for (int e = 0; e < eyes; e++) {
                if (eyeNumbers[e] < number) {
                    before++;
                }
            }
            return before;
        }

        /** The index of the newest write, up to a number, that concerns a key; or NONE. */
        int newestFor(int k, int limit) {
            for (int j = writes.size() - 1; j >= 0; j--) {
                if (writes.numberAt(j) <= limit && writes.concerns(j, k)) {
                    return j;
                }
            }
            return NONE;
        }

        /** The value that is seen for a key up to a number; 0 for nothing. */
        int valueFor(int k, int limit) {
            return writes.valueAt(newestFor(k, limit));
        }

        /** Whether a view sees an entry. */
        boolean isSeen(int j) {
            int key = writes.firstAt(j);
            for (int e = NONE; e < eyes; e++) {
                if (newestFor(key, limitOf(e)) == j) {
                    return true;
                }
            }
            return false;
        }

        // ---- what can be done

        boolean canOpen() {
            return eyes < MOST_EYES;
        }

        boolean canFlush() {
            if (sizeOf(NONE) == 0 || runs >= MOST_RUNS) {
                return false;
            }
            return startOf(NONE) + cleaner.clean(this, NONE, NONE) <= MOST_WRITES;
        }

        boolean canMerge(int i) {
            if (!isRun(i) || !isRun(i + 1)) {
                return false;
            }
            int others = writes.size() - sizeOf(i) - sizeOf(i + 1);
            return others + cleaner.clean(this, i, i + 1) <= MOST_WRITES;
        }

        /** How many writes would become fewer by merging a run with the one behind it. */
        int savedBy(int i) {
            return sizeOf(i) + sizeOf(i + 1) - cleaner.clean(this, i, i + 1);
        }

        // ---- doing it, where it can be done

        void addWrite(int first, int last, int value) {
            latest++;
            writes.add(latest, first, last, value);
        }

        void addEye() {
            if (eyes < eyeNumbers.length) {
                eyeNumbers[eyes] = latest;
                eyes++;
            }
        }

        void dropEye(int e) {
            if (!isEye(e)) {
                return;
            }
            for (int behind = e + 1; behind < eyes; behind++) {
                eyeNumbers[behind - 1] = eyeNumbers[behind];
            }
            eyes--;
        }

        void dropAllEyes() {
            eyes = 0;
        }

        /** Makes memory the newest run; returns how many writes are left of it. */
        int flushMemory() {
            int left = cleaner.clean(this, NONE, NONE);
            fewer += sizeOf(NONE) - left;
            writes.replace(startOf(NONE), endOf(NONE), cleaner.result);
            if (left > 0 && runs < ends.length) {
                ends[runs] = writes.size();
                runs++;
            }
            return left;
        }

        /** Makes a run and the one behind it one run; returns how many writes are left of them. */
        int mergeRuns(int i) {
            int older = runs - 2 - i;
            if (older < 0 || i < 0) {
                return 0;
            }
            int left = cleaner.clean(this, i, i + 1);
            int saved = sizeOf(i) + sizeOf(i + 1) - left;
            writes.replace(startOf(i + 1), endOf(i), cleaner.result);
            fewer += saved;
            int gone = left > 0 ? 1 : 2;
            for (int at = older; at + gone < runs; at++) {
                ends[at] = ends[at + gone] - saved;
            }
            runs -= gone;
            return left;
        }

        // ---- the same as commands: false where the method of the face would throw

        boolean tryPut(int k, int v) {
            if (!isKey(k) || !isValue(v) || isFull()) {
                return false;
            }
            addWrite(k, k, v);
            return true;
        }

        boolean tryBury(int from, int to) {
            if (!isKey(from) || !isKey(to) || to < from || isFull()) {
                return false;
            }
            addWrite(from, to, 0);
            return true;
        }

        boolean tryOpen() {
            if (!canOpen()) {
                return false;
            }
            addEye();
            return true;
        }

        boolean tryClose(int e) {
            if (!isEye(e)) {
                return false;
            }
            dropEye(e);
            return true;
        }

        boolean tryFlush() {
            if (!canFlush()) {
                return false;
            }
            flushMemory();
            return true;
        }

        boolean tryMerge(int i) {
            if (!canMerge(i)) {
                return false;
            }
            mergeRuns(i);
            return true;
        }
    }

    /** What is seen for each key. */
    private static final class View {
        /** The value of each key; 0 for nothing. */
        private final int[] seen = new int[KEYS];

        /** Sees what the writes of a state up to a number make of all keys. */
        void look(Store store, int limit) {
            Arrays.fill(seen, 0);
            Writes writes = store.writes;
            for (int j = 0; j < writes.size() && writes.numberAt(j) <= limit; j++) {
                for (int k = Math.max(writes.firstAt(j), 0); k <= writes.lastAt(j) && k < KEYS; k++) {
                    seen[k] = writes.valueAt(j);
                }
            }
        }

        int sum() {
            int sum = 0;
            for (int k = 0; k < KEYS; k++) {
                sum += seen[k];
            }
            return sum;
        }

        /** For how many keys, both ends with them, something is seen. */
        int seenIn(int from, int to) {
            int many = 0;
            for (int k = Math.max(from, 0); k <= to && k < KEYS; k++) {
                if (seen[k] != 0) {
                    many++;
                }
            }
            return many;
        }

        /** The lowest key, not less than this one, for which something is seen; or NONE. */
        int firstSeen(int from) {
            for (int k = Math.max(from, 0); k < KEYS; k++) {
                if (seen[k] != 0) {
                    return k;
                }
            }
            return NONE;
        }
    }

    /** The states that are remembered: a ring, in which the oldest one gives way. */
    private static final class History {
        private final Store[] states = new Store[MOST_STATES];
        private int oldest;
        private int size;

        History(Cleaner cleaner) {
            for (int i = 0; i < MOST_STATES; i++) {
                states[i] = new Store(cleaner, MOST_WRITES);
            }
        }

        int size() {
            return size;
        }

        void forgetAll() {
            oldest = 0;
            size = 0;
        }

        void remember(Store store) {
            if (size == MOST_STATES) {
                oldest = (oldest + 1) % MOST_STATES;
                size--;
            }
            states[(oldest + size) % MOST_STATES].become(store);
            size++;
        }

        /** Makes a state the one that was remembered last, which is forgotten then. */
        void takeBack(Store store) {
            if (size > 0) {
                size--;
                store.become(states[(oldest + size) % MOST_STATES]);
            }
        }
    }
}
