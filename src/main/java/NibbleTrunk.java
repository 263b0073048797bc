public final class NibbleTrunk {
    public static final int BAD = -1, FULL = -2, FINDING = -3, STATE = -4, SPENT = -6, NONE = -9;

    private static final int NOTHING = 1, BEYOND = 2, UNLIKE = 3, NOUGHT = 4, SIZE = 5;
    private static final int ROW_COUNT = 6, ROW_LIMIT = 40, TEXT_COUNT = 4, TEXT_LIMIT = 90;
    private static final int WORD_LIMIT = 6, KEY_LIMIT = 48, VALUE_LIMIT = 999, VALUE_FIGURES = 3;
    private static final int DEED_LIMIT = 40, KEPT_COUNT = 3, LATELY_LIMIT = 6, LOTS_LIMIT = 20;
    private static final int COUNT_KINDS = 14, NODE_FACTS = 5, CHANGE_KINDS = 4;
    private static final int IDLE = 0, PUTTING = 1, TAKING = 2, STRIPPING = 3;
    private static final int SMALL = 1, ROWED = 2, TABLED = 3, WHOLE = 4;
    private static final int BLANK = 32, EQUALS = 61, SEMICOLON = 59, PAST_END = 256;
    private static final int MISSING = -1;
    private static final int ALLOWED = 0;
    private static final long LOT_FACTOR = 48271L, LOT_MODULUS = 2147483647L;

    private final Shelf rows = new Shelf(ROW_COUNT, ROW_LIMIT);
    private final Shelf texts = new Shelf(TEXT_COUNT, TEXT_LIMIT);
    private final Reader reader = new Reader();
    private final Keys base = new Keys();
    private final Keys keys = new Keys();
    private final Deeds deeds = new Deeds();
    private final Deeds[] kept = new Deeds[KEPT_COUNT];
    private final Lately recent = new Lately();
    private final int[] changes = new int[CHANGE_KINDS];
    private final int[] findingCounts = new int[SIZE + 1];
    private Nodes nodes = new Nodes();
    private Nodes former = new Nodes();
    private int told = 0;
    private int latestFinding = 0;

    public NibbleTrunk() {
        for (int k = 0; k < KEPT_COUNT; k++) {
            kept[k] = new Deeds();
            kept[k].forget();
        }
    }

    // ---- 1 rows, texts, indexes

    public int row(int r, int n) {
        return makeOn(rows, r, n, 0);
    }

    public int lay(int r, int i, int v) {
        int refusal = refusePlace(rows, r, i);
        if (refusal != ALLOWED) {
            return refusal;
        }
        told = rows.replace(r, i, v);
        return 1;
    }

    public int at(int r, int i) {
        int refusal = refusePlace(rows, r, i);
        if (refusal != ALLOWED) {
            return refusal;
        }
        told = rows.cell(r, i);
        return 1;
    }

    public int tear(int r) {
        int refusal = refuseMissing(rows, r);
        if (refusal != ALLOWED) {
            return refusal;
        }
        rows.drop(r);
        return 1;
    }

    public int copy(int r, int i, int to, int j, int n) {
        if (!rows.names(r) || !rows.names(to)) {
            return BAD;
        }
        if (n < 0) {
            return refuse(SIZE);
        }
        if (!rows.holds(r) || !rows.holds(to)) {
            return refuse(NOTHING);
        }
        if (!rows.spans(r, i, n) || !rows.spans(to, j, n)) {
            return refuse(BEYOND);
        }
        rows.move(r, i, to, j, n);
        return 1;
    }

    public int mean(int r) {
        int refusal = refuseMissing(rows, r);
        if (refusal != ALLOWED) {
            return refusal;
        }
        int size = rows.size(r);
        if (size < 1) {
            return refuse(NOUGHT);
        }
        told = (int) (rows.sum(r) / size);
        return 1;
    }

    public int text(int t, int n) {
        return makeOn(texts, t, n, BLANK);
    }

    public int put(int t, int i, int v) {
        int refusal = refusePlace(texts, t, i);
        if (refusal != ALLOWED) {
            return refusal;
        }
        return texts.replace(t, i, (byte) v) + 1000;
    }

    public int fault(int t) {
        int refusal = refuseMissing(texts, t);
        if (refusal != ALLOWED) {
            return refusal;
        }
        return reader.read(texts, t);
    }

    public int index(int t) {
        int refusal = refuseMissing(texts, t);
        if (refusal != ALLOWED) {
            return refusal;
        }
        if (reader.read(texts, t) != NONE) {
            return STATE;
        }
        base.become(reader.keys);
        deeds.cutTo(0);
        for (int k = 0; k < KEPT_COUNT; k++) {
            kept[k].forget();
        }
        recent.empty();
        replayDeeds();
        return keys.size;
    }

    // ---- 2 deeds

    public int enter(int v, int n, int value) {
        if (!Words.isWord(v, n) || value < 0 || value > VALUE_LIMIT) {
            return BAD;
        }
        int word = Words.pack(v, n);
        if (deeds.size >= DEED_LIMIT || !keys.hasRoomFor(word)) {
            return FULL;
        }
        int old = keys.valueOf(word);
        doDeed(PUTTING, word, value);
        return old;
    }

    public int take(int v, int n) {
        if (!Words.isWord(v, n)) {
            return BAD;
        }
        int word = Words.pack(v, n);
        if (!keys.has(word)) {
            return STATE;
        }
        if (deeds.size >= DEED_LIMIT) {
            return FULL;
        }
        int old = keys.valueOf(word);
        doDeed(TAKING, word, 0);
        return old;
    }

    public int strip(int v, int n) {
        if (!Words.isWord(v, n)) {
            return BAD;
        }
        int word = Words.pack(v, n);
        int stripped = keys.beginningWith(word);
        if (stripped == 0) {
            return STATE;
        }
        if (deeds.size >= DEED_LIMIT) {
            return FULL;
        }
        doDeed(STRIPPING, word, 0);
        return stripped;
    }

    public int change(int what) {
        if (what < 0 || what >= CHANGE_KINDS) {
            return BAD;
        }
        return changes[what];
    }

    public int undo(int n) {
        if (n < 0 || n > deeds.size) {
            return BAD;
        }
        int undone = deeds.size - n;
        deeds.cutTo(n);
        replayDeeds();
        return undone;
    }

    public int keep(int k) {
        if (k < 0 || k >= KEPT_COUNT) {
            return BAD;
        }
        kept[k].become(deeds);
        return deeds.size;
    }

    public int on(int k) {
        if (k < 0 || k >= KEPT_COUNT) {
            return BAD;
        }
        if (kept[k].size == MISSING) {
            return refuse(NOTHING);
        }
        deeds.become(kept[k]);
        replayDeeds();
        return deeds.size;
    }

    // ---- 3 words

    public int find(int v, int n) {
        if (!Words.isWord(v, n)) {
            return BAD;
        }
        int word = Words.pack(v, n);
        recent.remember(word);
        told = nodes.countOnWayTo(word);
        return keys.valueOf(word);
    }

    public int longest(int v, int n) {
        if (!Words.isWord(v, n)) {
            return BAD;
        }
        int word = Words.pack(v, n);
        for (int length = n; length > 0; length--) {
            int head = Words.head(word, length);
            if (keys.has(head)) {
                told = keys.valueOf(head);
                return length;
            }
        }
        return NONE;
    }

    public int next(int v, int n) {
        if (!Words.isWord(v, n)) {
            return BAD;
        }
        int place = keys.aheadOf(Words.pack(v, n) + 1);
        return place < keys.size ? tellWord(keys.word(place)) : NONE;
    }

    public int nth(int k) {
        if (k < 0 || k >= keys.size) {
            return BAD;
        }
        return tellWord(keys.word(k));
    }

    public int rank(int v, int n) {
        if (!Words.isWord(v, n)) {
            return BAD;
        }
        int word = Words.pack(v, n);
        told = keys.beginningWith(word);
        return keys.aheadOf(word);
    }

    public int between(int v, int n, int w, int m) {
        if (!Words.isWord(v, n) || !Words.isWord(w, m)) {
            return BAD;
        }
        int from = keys.aheadOf(Words.pack(v, n));
        int till = keys.aheadOf(Words.pack(w, m) + 1);
        told = keys.valueSum(from, till);
        return Math.max(0, till - from);
    }

    // ---- 4 nodes

    public int node(int v, int n, int what) {
        if (!Words.isPath(v, n) || what < 0 || what >= NODE_FACTS) {
            return BAD;
        }
        int d = nodes.seatOf(Words.pack(v, n));
        if (d == MISSING) {
            return NONE;
        }
        told = nodeFact(d, what);
        return 1;
    }

    public int mark(int v, int n, int size) {
        if (!Words.isPath(v, n) || size < SMALL || size > WHOLE) {
            return BAD;
        }
        int d = nodes.seatOf(Words.pack(v, n));
        if (d == MISSING) {
            return NONE;
        }
        if (!Nodes.isOfSize(nodes.sizeOf(d), size)) {
            return refuse(UNLIKE);
        }
        return nodes.markOf(d, size);
    }

    public int twins() {
        int unlike = 0;
        int alike = 0;
        for (int d = 0; d < nodes.size; d++) {
            int first = nodes.firstTwin(keys, d, 0);
            if (first == d) {
                unlike++;
            }
            if (first != d || nodes.firstTwin(keys, d, d + 1) != MISSING) {
                alike++;
            }
        }
        told = alike;
        return unlike;
    }

    public int best() {
        if (keys.size == 0) {
            return STATE;
        }
        int all = nodes.allPlaces();
        int bestKey = 0;
        int fewest = all - nodes.placesSaved(keys, 0);
        for (int k = 1; k < keys.size; k++) {
            int left = all - nodes.placesSaved(keys, k);
            if (left < fewest) {
                bestKey = k;
                fewest = left;
            }
        }
        told = fewest;
        return Words.figures(keys.word(bestKey));
    }

    public int lately(int k) {
        if (k < 0) {
            return BAD;
        }
        return k < recent.size ? tellWord(recent.word(k)) : NONE;
    }

    // ---- 5 lots

    public int lots(int n, int seed) {
        if (n < 1 || n > LOTS_LIMIT || seed < 1 || seed >= LOT_MODULUS) {
            return BAD;
        }
        if (deeds.size + n > DEED_LIMIT) {
            return FULL;
        }
        long number = seed;
        for (int i = 0; i < n; i++) {
            number = number * LOT_FACTOR % LOT_MODULUS;
            doLot((int) number);
        }
        settle();
        return keys.size;
    }

    // ---- 6 what is told

    public int asked() {
        return told;
    }

    public int count(int what) {
        if (what < 0 || what >= COUNT_KINDS) {
            return BAD;
        }
        return counted(what);
    }

    public int finding() {
        return latestFinding;
    }

    public int findings(int f) {
        if (f < NOTHING || f > SIZE) {
            return BAD;
        }
        return findingCounts[f];
    }

    public long digest() {
        long h = 17;
        for (int what = 0; what < COUNT_KINDS; what++) {
            h = 31 * h + counted(what);
        }
        h = keys.mixInto(h);
        for (int k = 0; k < KEPT_COUNT; k++) {
            h = 31 * h + kept[k].size;
        }
        h = recent.mixInto(h);
        h = rows.mixInto(h);
        return texts.mixInto(h);
    }

    // ---- what the calls share

    private int refuse(int finding) {
        latestFinding = finding;
        if (finding >= NOTHING && finding <= SIZE) {
            findingCounts[finding]++;
        }
        return FINDING;
    }

    private int refuseMissing(Shelf shelf, int r) {
        if (!shelf.names(r)) {
            return BAD;
        }
        return shelf.holds(r) ? ALLOWED : refuse(NOTHING);
    }

    private int refusePlace(Shelf shelf, int r, int i) {
        int refusal = refuseMissing(shelf, r);
        if (refusal != ALLOWED) {
            return refusal;
        }
        return shelf.reaches(r, i) ? ALLOWED : refuse(BEYOND);
    }

    private int makeOn(Shelf shelf, int r, int n, int filler) {
        if (!shelf.names(r) || n > shelf.limit) {
            return BAD;
        }
        if (n < 0) {
            return refuse(SIZE);
        }
        shelf.make(r, n, filler);
        return n;
    }

    private int tellWord(int word) {
        told = Words.length(word);
        return Words.figures(word);
    }

    private void doDeed(int kind, int word, int value) {
        deeds.add(kind, word, value);
        keys.apply(kind, word, value);
        Nodes older = former;
        former = nodes;
        nodes = older;
        nodes.build(keys);
        nodes.tellChanges(former, changes);
    }

    private void doLot(int number) {
        int word = lotWord(number);
        int kind = (number / 4) % 2 == 0 ? PUTTING : TAKING;
        boolean can = kind == PUTTING ? keys.hasRoomFor(word) : keys.has(word);
        int done = can ? kind : IDLE;
        int value = number / 8 % 1000;
        deeds.add(done, word, value);
        keys.apply(done, word, value);
    }

    private static int lotWord(int number) {
        int length = number % 3 + 1;
        int rest = number / 16;
        int v = 0;
        for (int k = 0; k < length; k++) {
            int figure = rest % 4;
            v = v * 16 + (figure == 3 ? 15 : figure);
            rest = rest / 4;
        }
        return Words.pack(v, length);
    }

    // Kept indexes never outlive the base they were grown from, so their deeds alone bring them back.
    private void replayDeeds() {
        keys.become(base);
        deeds.replayOn(keys);
        settle();
    }

    private void settle() {
        nodes.build(keys);
        for (int what = 0; what < CHANGE_KINDS; what++) {
            changes[what] = 0;
        }
    }

    private int nodeFact(int d, int what) {
        switch (what) {
            case 0: return nodes.sizeOf(d);
            case 1: return nodes.childrenOf(d);
            case 2: return nodes.prefixOf(d);
            case 3: return nodes.hasEnd(keys, d) ? 1 : 0;
            default: return nodes.keysBelow(d);
        }
    }

    private int counted(int what) {
        switch (what) {
            case 0: return keys.size;
            case 1: return nodes.size;
            case 2: return nodes.countOfSize(SMALL);
            case 3: return nodes.countOfSize(ROWED);
            case 4: return nodes.countOfSize(TABLED);
            case 5: return nodes.countOfSize(WHOLE);
            case 6: return nodes.allPlaces();
            case 7: return nodes.deepest();
            case 8: return nodes.longestPrefix();
            case 9: return deeds.size;
            case 10: return rows.held();
            case 11: return texts.held();
            case 12: return keptCount();
            default: return recent.size;
        }
    }

    private int keptCount() {
        int there = 0;
        for (int k = 0; k < KEPT_COUNT; k++) {
            if (kept[k].size != MISSING) {
                there++;
            }
        }
        return there;
    }

    /**
     * A word is held as one int: its figures, moved to the left so that the first stands highest
     * among six, and its length in the lowest three bits. So the order of ints is the ORDER of words.
     */
    private static final class Words {
        private static final int LENGTH_BITS = 3, LENGTH_MASK = 7, WORD_BITS = 27, FIGURE_BITS = 0x7FFFFF8;

        static boolean isWord(int v, int n) {
            return n >= 1 && n <= WORD_LIMIT && v >= 0 && v < 1 << 4 * n;
        }

        static boolean isPath(int v, int n) {
            return n == 0 ? v == 0 : isWord(v, n);
        }

        static int pack(int v, int n) {
            return v << bitsBehind(n) | n;
        }

        static int length(int word) {
            return word & LENGTH_MASK;
        }

        static int figures(int word) {
            return word >> bitsBehind(length(word));
        }

        static int figure(int word, int k) {
            return word >> bitsBehind(k + 1) & 15;
        }

        static int head(int word, int length) {
            int bits = bitsBehind(length);
            return word >> bits << bits | length;
        }

        static int tail(int word, int behind) {
            return (word & FIGURE_BITS) << 4 * behind & FIGURE_BITS | length(word) - behind;
        }

        static boolean isHeadOf(int head, int word) {
            int length = length(head);
            return length <= length(word) && (head ^ word) >> bitsBehind(length) == 0;
        }

        static int sharedLength(int a, int b) {
            int unlike = (a ^ b) >> LENGTH_BITS;
            int alike = (Integer.numberOfLeadingZeros(unlike) - (32 - 4 * WORD_LIMIT)) / 4;
            return Math.min(alike, Math.min(length(a), length(b)));
        }

        private static int bitsBehind(int length) {
            return WORD_BITS - 4 * length;
        }
    }

    /** Numbered rows of ints that may be missing. All room is made at once, so no call makes more. */
    private static final class Shelf {
        final int limit;
        private final int[][] cells;
        private final int[] sizes;

        Shelf(int rowCount, int limit) {
            this.limit = limit;
            cells = new int[rowCount][limit];
            sizes = new int[rowCount];
            for (int r = 0; r < rowCount; r++) {
                sizes[r] = MISSING;
            }
        }

        boolean names(int r) {
            return r >= 0 && r < sizes.length;
        }

        int size(int r) {
            return names(r) ? sizes[r] : MISSING;
        }

        boolean holds(int r) {
            return size(r) != MISSING;
        }

        boolean reaches(int r, int i) {
            return i >= 0 && i < size(r);
        }

        boolean spans(int r, int i, int n) {
            int size = size(r);
            return i >= 0 && i <= size && n >= 0 && n <= size - i;
        }

        int cell(int r, int i) {
            return reaches(r, i) ? cells[r][i] : 0;
        }

        int replace(int r, int i, int v) {
            if (!reaches(r, i)) {
                return 0;
            }
            int old = cells[r][i];
            cells[r][i] = v;
            return old;
        }

        void make(int r, int n, int filler) {
            if (!names(r) || n < 0 || n > limit) {
                return;
            }
            sizes[r] = n;
            for (int i = 0; i < n; i++) {
                cells[r][i] = filler;
            }
        }

        void drop(int r) {
            if (names(r)) {
                sizes[r] = MISSING;
            }
        }

        void move(int r, int i, int to, int j, int n) {
            if (spans(r, i, n) && spans(to, j, n)) {
                System.arraycopy(cells[r], i, cells[to], j, n);
            }
        }

        /** Lays the places of a row into another array, and answers how many they are. */
        int layInto(int r, int[] into) {
            int n = Math.min(size(r), into.length);
            if (n < 1) {
                return 0;
            }
            System.arraycopy(cells[r], 0, into, 0, n);
            return n;
        }

        long sum(int r) {
            long sum = 0;
            for (int i = 0; i < size(r); i++) {
                sum += cells[r][i];
            }
            return sum;
        }

        int held() {
            int there = 0;
            for (int r = 0; r < sizes.length; r++) {
                if (sizes[r] != MISSING) {
                    there++;
                }
            }
            return there;
        }

        long mixInto(long h) {
            for (int r = 0; r < sizes.length; r++) {
                h = 31 * h + sizes[r];
                for (int i = 0; i < sizes[r]; i++) {
                    h = 31 * h + cells[r][i];
                }
            }
            return h;
        }
    }

    /** Words with values, each once, held in ORDER. */
    private static final class Keys {
        int size = 0;
        private final int[] words = new int[KEY_LIMIT];
        private final int[] values = new int[KEY_LIMIT];

        void empty() {
            size = 0;
        }

        void become(Keys other) {
            System.arraycopy(other.words, 0, words, 0, KEY_LIMIT);
            System.arraycopy(other.values, 0, values, 0, KEY_LIMIT);
            size = other.size;
        }

        int word(int k) {
            return k >= 0 && k < size ? words[k] : 0;
        }

        int value(int k) {
            return k >= 0 && k < size ? values[k] : NONE;
        }

        int aheadOf(int word) {
            int ahead = 0;
            while (ahead < size && words[ahead] < word) {
                ahead++;
            }
            return ahead;
        }

        boolean has(int word) {
            int place = aheadOf(word);
            return place < size && words[place] == word;
        }

        int valueOf(int word) {
            return has(word) ? value(aheadOf(word)) : NONE;
        }

        boolean hasRoomFor(int word) {
            return size < KEY_LIMIT || has(word);
        }

        int beginningWith(int word) {
            int place = aheadOf(word);
            int end = place;
            while (end < size && Words.isHeadOf(word, words[end])) {
                end++;
            }
            return end - place;
        }

        int valueSum(int from, int till) {
            int sum = 0;
            for (int k = from; k < till; k++) {
                sum += value(k);
            }
            return sum;
        }

        void apply(int kind, int word, int value) {
            switch (kind) {
                case PUTTING:
                    insert(word, value);
                    break;
                case TAKING:
                    remove(aheadOf(word), has(word) ? 1 : 0);
                    break;
                case STRIPPING:
                    remove(aheadOf(word), beginningWith(word));
                    break;
                default:
                    break;
            }
        }

        void insert(int word, int value) {
            int place = aheadOf(word);
            boolean isNew = place >= size || words[place] != word;
            if (isNew && size >= KEY_LIMIT) {
                return;
            }
            if (isNew) {
                for (int k = size; k > place; k--) {
                    words[k] = words[k - 1];
                    values[k] = values[k - 1];
                }
                size++;
            }
            words[place] = word;
            values[place] = value;
        }

        private void remove(int place, int n) {
            for (int k = place; k + n < size; k++) {
                words[k] = words[k + n];
                values[k] = values[k + n];
            }
            size -= n;
        }

        long mixInto(long h) {
            for (int k = 0; k < size; k++) {
                h = 31 * h + Words.figures(words[k]);
                h = 31 * h + Words.length(words[k]);
                h = 31 * h + values[k];
            }
            return h;
        }
    }

    /** The deeds of an index in turn. A size of MISSING stands for an index that is not kept. */
    private static final class Deeds {
        int size = 0;
        private final int[] kinds = new int[DEED_LIMIT];
        private final int[] words = new int[DEED_LIMIT];
        private final int[] values = new int[DEED_LIMIT];

        void forget() {
            size = MISSING;
        }

        void cutTo(int n) {
            if (n >= 0 && n <= size) {
                size = n;
            }
        }

        void add(int kind, int word, int value) {
            if (size < 0 || size >= DEED_LIMIT) {
                return;
            }
            kinds[size] = kind;
            words[size] = word;
            values[size] = value;
            size++;
        }

        void become(Deeds other) {
            System.arraycopy(other.kinds, 0, kinds, 0, DEED_LIMIT);
            System.arraycopy(other.words, 0, words, 0, DEED_LIMIT);
            System.arraycopy(other.values, 0, values, 0, DEED_LIMIT);
            size = other.size;
        }

        void replayOn(Keys keys) {
            for (int i = 0; i < size; i++) {
                keys.apply(kinds[i], words[i], values[i]);
            }
        }
    }

    /**
     * The nodes of an index in ORDER of their paths, built anew whenever the keys change: each has
     * its share of the sorted keys, from .. till. n keys part at n - 1 paths at most.
     */
    private static final class Nodes {
        int size = 0;
        private final int[] paths = new int[KEY_LIMIT];
        private final int[] children = new int[KEY_LIMIT];
        private final int[] prefixes = new int[KEY_LIMIT];
        private final int[] depths = new int[KEY_LIMIT];
        private final int[] froms = new int[KEY_LIMIT];
        private final int[] tills = new int[KEY_LIMIT];

        void build(Keys keys) {
            size = 0;
            grow(keys, 0, keys.size, MISSING, 0);
        }

        // Above the topmost node stands a length of -1, so that its prefix is its whole path.
        private void grow(Keys keys, int from, int till, int lengthAbove, int depth) {
            if (till - from < 2 || depth >= WORD_LIMIT || size >= KEY_LIMIT) {
                return;
            }
            int first = keys.word(from);
            int length = Words.sharedLength(first, keys.word(till - 1));
            int me = size;
            size++;
            paths[me] = Words.head(first, length);
            prefixes[me] = length - lengthAbove - 1;
            depths[me] = depth + 1;
            froms[me] = from;
            tills[me] = till;
            children[me] = 0;
            int start = Words.length(first) == length ? from + 1 : from;
            for (int k = start + 1; k <= till; k++) {
                int figure = Words.figure(keys.word(start), length);
                if (k == till || Words.figure(keys.word(k), length) != figure) {
                    children[me] |= 1 << figure;
                    grow(keys, start, k, length, depth + 1);
                    start = k;
                }
            }
        }

        static int placesFor(int childCount) {
            if (childCount <= 2) {
                return 2;
            }
            return childCount <= 4 ? 4 : childCount <= 8 ? 8 : 16;
        }

        static boolean isOfSize(int own, int size) {
            return own == size || own == ROWED && size == SMALL || own == WHOLE && size == TABLED;
        }

        private boolean isSeat(int d) {
            return d >= 0 && d < size;
        }

        int childrenOf(int d) {
            return isSeat(d) ? children[d] : 0;
        }

        int prefixOf(int d) {
            return isSeat(d) ? prefixes[d] : 0;
        }

        int keysBelow(int d) {
            return isSeat(d) ? tills[d] - froms[d] : 0;
        }

        boolean hasEnd(Keys keys, int d) {
            return isSeat(d) && keys.word(froms[d]) == paths[d];
        }

        int placesOf(int d) {
            return isSeat(d) ? placesFor(Integer.bitCount(children[d])) : 0;
        }

        int sizeOf(int d) {
            switch (placesOf(d)) {
                case 2: return SMALL;
                case 4: return ROWED;
                case 8: return TABLED;
                default: return WHOLE;
            }
        }

        int markOf(int d, int size) {
            int bits = childrenOf(d);
            int least = Integer.numberOfTrailingZeros(bits);
            int greatest = 31 - Integer.numberOfLeadingZeros(bits);
            switch (size) {
                case SMALL: return least;
                case ROWED: return greatest - least + 1 - Integer.bitCount(bits);
                case TABLED: return placesOf(d) - Integer.bitCount(bits);
                default: return greatest;
            }
        }

        int seatOf(int path) {
            for (int d = 0; d < size; d++) {
                if (paths[d] == path) {
                    return d;
                }
            }
            return MISSING;
        }

        int countOnWayTo(int word) {
            int met = 0;
            for (int d = 0; d < size; d++) {
                if (Words.isHeadOf(paths[d], word)) {
                    met++;
                }
            }
            return met;
        }

        int countOfSize(int size) {
            int same = 0;
            for (int d = 0; d < this.size; d++) {
                if (sizeOf(d) == size) {
                    same++;
                }
            }
            return same;
        }

        int allPlaces() {
            int places = 0;
            for (int d = 0; d < size; d++) {
                places += placesOf(d);
            }
            return places;
        }

        int deepest() {
            int most = 0;
            for (int d = 0; d < size; d++) {
                most = Math.max(most, depths[d]);
            }
            return most;
        }

        int longestPrefix() {
            int most = 0;
            for (int d = 0; d < size; d++) {
                most = Math.max(most, prefixes[d]);
            }
            return most;
        }

        void tellChanges(Nodes older, int[] changes) {
            if (changes.length < CHANGE_KINDS) {
                return;
            }
            int stayed = 0;
            int grown = 0;
            int shrunk = 0;
            for (int d = 0; d < size; d++) {
                int before = older.placesOf(older.seatOf(paths[d]));
                if (before != 0) {
                    stayed++;
                    grown += placesOf(d) > before ? 1 : 0;
                    shrunk += placesOf(d) < before ? 1 : 0;
                }
            }
            changes[0] = size - stayed;
            changes[1] = older.size - stayed;
            changes[2] = grown;
            changes[3] = shrunk;
        }

        int firstTwin(Keys keys, int d, int from) {
            for (int e = Math.max(from, 0); e < size; e++) {
                if (areTwins(keys, d, e)) {
                    return e;
                }
            }
            return MISSING;
        }

        private boolean areTwins(Keys keys, int d, int e) {
            int n = keysBelow(d);
            if (!isSeat(d) || !isSeat(e) || n != keysBelow(e) || children[d] != children[e]) {
                return false;
            }
            int behindD = Words.length(paths[d]);
            int behindE = Words.length(paths[e]);
            for (int i = 0; i < n; i++) {
                int k = froms[d] + i;
                int m = froms[e] + i;
                if (keys.value(k) != keys.value(m)
                        || Words.tail(keys.word(k), behindD) != Words.tail(keys.word(m), behindE)) {
                    return false;
                }
            }
            return true;
        }

        // Only the lowest node over a key changes by its going: all above keep another key below it.
        int placesSaved(Keys keys, int k) {
            int lowest = lowestOver(k);
            if (lowest == MISSING) {
                return 0;
            }
            boolean isEnd = keys.word(k) == paths[lowest];
            int left = Integer.bitCount(children[lowest]) - (isEnd ? 0 : 1);
            boolean endLeft = hasEnd(keys, lowest) && !isEnd;
            boolean stays = left >= 2 || left == 1 && endLeft;
            return placesOf(lowest) - (stays ? placesFor(left) : 0);
        }

        private int lowestOver(int k) {
            for (int d = size - 1; d >= 0; d--) {
                if (froms[d] <= k && k < tills[d]) {
                    return d;
                }
            }
            return MISSING;
        }
    }

    /** The unlike words asked for last, the latest first. */
    private static final class Lately {
        int size = 0;
        private final int[] words = new int[LATELY_LIMIT];

        void empty() {
            size = 0;
        }

        int word(int k) {
            return k >= 0 && k < size ? words[k] : 0;
        }

        void remember(int word) {
            int place = 0;
            while (place < size && words[place] != word) {
                place++;
            }
            if (place == size && size < LATELY_LIMIT) {
                size++;
            }
            for (int k = Math.min(place, LATELY_LIMIT - 1); k > 0; k--) {
                words[k] = words[k - 1];
            }
            words[0] = word;
        }

        long mixInto(long h) {
            for (int k = 0; k < size; k++) {
                h = 31 * h + Words.figures(words[k]);
                h = 31 * h + Words.length(words[k]);
            }
            return h;
        }
    }

    /** Reads an index from a text; what it has read stands in its keys. */
    private static final class Reader {
        final Keys keys = new Keys();
        private final int[] signs = new int[TEXT_LIMIT];
        private int size = 0;
        private int place = 0;

        /** Answers the place of the first fault, or NONE. */
        int read(Shelf texts, int t) {
            size = texts.layInto(t, signs);
            place = 0;
            keys.empty();
            for (int item = 0; item <= TEXT_LIMIT; item++) {
                skipBlanks();
                if (place >= size) {
                    return NONE;
                }
                int fault = readKey();
                if (fault != NONE) {
                    return fault;
                }
            }
            return NONE;
        }

        private int sign() {
            return place < size ? signs[place] : PAST_END;
        }

        private void skipBlanks() {
            while (place < size && sign() == BLANK) {
                place++;
            }
        }

        // A word told already is a fault at its start whatever follows it, but for a seventh figure:
        // with that it has not ended, and is not the one that was told.
        private int readKey() {
            int start = place;
            int v = readNumber(16, WORD_LIMIT);
            int n = place - start;
            if (n == 0 || figureOf(sign()) != MISSING) {
                return place;
            }
            int word = Words.pack(v, n);
            if (keys.has(word) || !keys.hasRoomFor(word)) {
                return start;
            }
            if (sign() != EQUALS) {
                return place;
            }
            place++;
            int valueStart = place;
            int value = readNumber(10, VALUE_FIGURES);
            if (place == valueStart || sign() != SEMICOLON) {
                return place;
            }
            place++;
            keys.insert(word, value);
            return NONE;
        }

        // A figure beyond the most is left unread: there it is no sign that may follow.
        private int readNumber(int radix, int most) {
            int number = 0;
            for (int k = 0; k < most; k++) {
                int figure = figureOf(sign());
                if (figure < 0 || figure >= radix) {
                    return number;
                }
                number = number * radix + figure;
                place++;
            }
            return number;
        }

        private static int figureOf(int sign) {
            if (sign >= '0' && sign <= '9') {
                return sign - '0';
            }
            return sign >= 'a' && sign <= 'f' ? sign - 'a' + 10 : MISSING;
        }
    }
}
