/**
 * A filter of ranges over at most 64 keys of 1 to 8 bytes. What each call answers stands in DOC.md, by the
 * numbers of its promises.
 *
 * A key is held as a long (its first byte the highest, zeros behind its last one) and its length. All that is
 * POSSIBLE at a leaf lies without a gap between a lowest and a highest key, so the questions of keys and of
 * ranges are answered by counting in the sorted rows of these two.
 */
public final class BeginningsFilter {
    public static final int NONE = -1;

    private static final int MOST_KEYS = 64;
    private static final int MOST_BYTES = 8;
    private static final int MOST_QUESTIONS = 16;
    private static final int MOST_DRAWN = 200;
    private static final int MOST_TAIL_BITS = 8;
    private static final int OCTETS = 256;

    /** Each node but the first has two keys or more below it: 1 and 7 times 32 are the most. */
    private static final int NODE_ROOM = 232;
    /** An edge leads to a leaf or to a node that is not the first. */
    private static final int EDGE_ROOM = NODE_ROOM + MOST_KEYS;
    private static final int TAPE_ROOM = 160;
    private static final int FED_AT_ONCE = 20;
    private static final int TEXT_ROOM = 128;

    private static final int HASHED = 0;
    private static final int REAL = 1;
    private static final int DENSE = 2;
    private static final int RATIO = 3;
    private static final int ALPHABET = 4;
    private static final int SALT = 5;
    private static final int TOLD_ROOM = 6;
    private static final int[] TOLD_AT_FIRST = {4, 4, 9, 16, 4, 0};
    private static final int[] TOLD_LEAST = {0, 0, 0, 1, 1, -2147483648};
    private static final int[] TOLD_MOST = {8, 8, 9, 64, 256, 2147483647};
    private static final int DENSE_BY_RATIO = 9;

    private static final int MODE_HASH = 1;
    private static final int MODE_REAL = 2;
    private static final int MODE_BOTH = 3;
    private static final int MODES = 4;

    private static final int ROW_LABELS = 0;
    private static final int ROW_KIDS = 1;
    private static final int ROW_ENDS = 2;
    private static final int ROW_MARKS = 3;
    private static final int ROW_LOWER = 4;
    private static final int ROW_FIRSTS = 5;
    private static final int ROWS = 6;

    private static final int UPPER_NODE_BITS = 513;
    private static final int ITEM_BITS = 11;

    private static final int ACCOUNT_ROOM = 6;
    private static final int OF_KEYS = 0;
    private static final int OF_RANGES = 3;

    private static final int ABSENT = 0;
    private static final int PRESENT = 1;
    private static final int FALSELY = 2;

    private static final int LEADS_TO_LEAF = -2;
    private static final int NO_BRANCH = -3;
    private static final int NO_LOOK = -100000000;

    /** Turned over, longs compare as if they had no sign. */
    private static final long SIGN_BIT = 1L << 63;

    private final Moment now = new Moment();
    private final Moment kept = new Moment();
    private boolean isKept = false;
    private final Leaves leaves = new Leaves();
    private final Tree tree = new Tree();
    private final Tuning tuning = new Tuning();
    private final Keys trial = new Keys();
    private final Tape tape = new Tape();
    private final Text text = new Text();
    private int chosenRow = ROW_LABELS;

    public BeginningsFilter() {
        rebuild();
    }

    // ---- the tape ----

    public int feed(int a, int b, int c, int d, int e) {
        if (tape.count + FED_AT_ONCE > TAPE_ROOM) {
            return NONE;
        }
        tape.putFour(a);
        tape.putFour(b);
        tape.putFour(c);
        tape.putFour(d);
        tape.putFour(e);
        return tape.count;
    }

    public boolean end(int n) {
        if (n < 0 || n > tape.count) {
            return false;
        }
        tape.count = n;
        return true;
    }

    public int mode() {
        int found = NONE;
        for (int i = 0; i < MODES; i++) {
            if (tape.spells(modeName(i))) {
                found = i;
            }
        }
        tape.count = 0;
        if (found != NONE) {
            now.told.mode = found;
        }
        return found;
    }

    public int row() {
        int found = NONE;
        for (int i = 0; i < ROWS; i++) {
            if (tape.spells(rowName(i))) {
                found = i;
            }
        }
        tape.count = 0;
        if (found != NONE) {
            chosenRow = found;
        }
        return found;
    }

    public int keys() {
        trial.copyFrom(now.told.members);
        boolean read = tape.readInto(trial);
        tape.count = 0;
        if (!read) {
            return NONE;
        }
        int came = trial.count - now.told.members.count;
        now.told.members.copyFrom(trial);
        return came;
    }

    // ---- what is told ----

    public boolean set(int what, int v) {
        if (what < 0 || what >= TOLD_ROOM || v < at(TOLD_LEAST, what) || v > at(TOLD_MOST, what)) {
            return false;
        }
        now.told.values[what] = v;
        return true;
    }

    public int state(int v) {
        int was = now.draws;
        now.draws = v;
        return was;
    }

    public int add(int a, int b, int n) {
        if (!isLength(n)) {
            return NONE;
        }
        return now.told.members.insert(keyOf(a, b, n), n);
    }

    public int remove(int a, int b, int n) {
        if (!isLength(n)) {
            return NONE;
        }
        int number = now.told.members.numberOf(keyOf(a, b, n), n);
        now.told.members.drop(number);
        return number;
    }

    public int fill(int n, int m) {
        if (n < 1 || n > MOST_KEYS || !isLength(m)) {
            return NONE;
        }
        int came = 0;
        for (int i = 0; i < n; i++) {
            int length = now.draw(m) + 1;
            long key = now.drawBytes(length);
            if (now.told.members.insert(key, length) != NONE) {
                came++;
            }
        }
        return came;
    }

    public int build() {
        now.built.copyFrom(now.told);
        rebuild();
        return leaves.count();
    }

    // ---- keys and ranges ----

    public int has(int a, int b, int n, int what) {
        if (!isLength(n)) {
            return NONE;
        }
        long key = keyOf(a, b, n);
        if (what == 0) {
            return now.told.members.numberOf(key, n);
        }
        return what == 1 ? leaves.owners.numberOf(key, n) : NONE;
    }

    public int may(int a, int b, int n) {
        if (!isLength(n)) {
            return NONE;
        }
        return askKey(keyOf(a, b, n), n) == ABSENT ? 0 : 1;
    }

    public int leafOf(int a, int b, int n) {
        return isLength(n) ? leaves.possibleAt(keyOf(a, b, n), n) : NONE;
    }

    public int range(int a, int b, int n, int c, int d, int m) {
        if (!isRange(a, b, n, c, d, m)) {
            return NONE;
        }
        return askRange(keyOf(a, b, n), n, keyOf(c, d, m), m) == ABSENT ? 0 : 1;
    }

    public int meets(int a, int b, int n, int c, int d, int m) {
        if (!isRange(a, b, n, c, d, m)) {
            return NONE;
        }
        return leaves.met(keyOf(a, b, n), n, keyOf(c, d, m), m);
    }

    public int holds(int a, int b, int n, int c, int d, int m) {
        if (!isRange(a, b, n, c, d, m)) {
            return NONE;
        }
        return leaves.held(keyOf(a, b, n), n, keyOf(c, d, m), m);
    }

    public int seek(int a, int b, int n) {
        if (!isLength(n)) {
            return NONE;
        }
        int first = leaves.highs.ahead(keyOf(a, b, n), n);
        return first < leaves.count() ? first : NONE;
    }

    public int seekBack(int a, int b, int n) {
        return isLength(n) ? leaves.lows.upTo(keyOf(a, b, n), n) - 1 : NONE;
    }

    // ---- leaves, nodes, levels, items ----

    public int leaf(int leaf, int what) {
        if (leaf < 0 || leaf >= leaves.count()) {
            return NONE;
        }
        switch (what) {
            case 0: return leaves.lengthAt(leaf);
            case 1: return leaves.isEnded(leaf) ? 1 : 0;
            case 2: return leaves.hashAt(leaf);
            case 3: return leaves.nextAt(leaf);
            case 4: return at(tree.places, leaf);
            case 5: return at(tree.leafNodes, leaf);
            case 6: return at(leaves.commons, leaf);
            default: break;
        }
        int place = what - 10;
        if (what < 10 || place >= leaves.lengthAt(leaf)) {
            return NONE;
        }
        return octetAt(leaves.owners.bytesAt(leaf), place);
    }

    public int leafAt(int place) {
        return place >= 0 && place < leaves.count() ? at(tree.leavesByPlace, place) : NONE;
    }

    public int node(int node, int what) {
        if (node < 0 || node >= tree.nodes) {
            return NONE;
        }
        switch (what) {
            case 0: return at(tree.nodeLevels, node);
            case 1: return tree.branches(node, node + 1);
            case 2: return tree.childrenOf(node);
            case 3: return tree.endsAmong(node, node + 1);
            case 4: return node < tree.upperNodes ? 1 : 0;
            case 5: return at(tree.firstLeaves, node);
            case 6: return at(tree.leafCounts, node);
            default: return NONE;
        }
    }

    public int child(int node, int octet) {
        if (node < 0 || node >= tree.nodes || octet < 0 || octet >= OCTETS) {
            return NONE;
        }
        return tree.goneAlong(node, octet);
    }

    public int level(int level, int what) {
        if (level < 0 || level >= tree.levels) {
            return NONE;
        }
        int from = at(tree.levelStarts, level);
        int to = at(tree.levelStarts, level + 1);
        switch (what) {
            case 0: return to - from;
            case 1: return tree.branches(from, to);
            case 2: return leaves.ofLevel(level);
            case 3: return level < tree.upper ? 1 : 0;
            case 4: return level < tree.upper ? UPPER_NODE_BITS * (to - from) : ITEM_BITS * tree.edgesAmong(from, to);
            default: return NONE;
        }
    }

    public int item(int item, int what) {
        if (item < 0 || item >= tree.items()) {
            return NONE;
        }
        int edge = tree.itemStart + item;
        switch (what) {
            case 0: return at(tree.edgeOctets, edge);
            case 1: return tree.isEnd(edge) ? 1 : 0;
            case 2: return tree.hasChild(edge) ? 1 : 0;
            case 3: return at(tree.edgeNodes, edge);
            default: return NONE;
        }
    }

    // ---- rows of bits ----

    public int bit(int i) {
        if (i < 0 || i >= tree.rowLength(chosenRow)) {
            return NONE;
        }
        return tree.onesAhead(chosenRow, i + 1) - tree.onesAhead(chosenRow, i);
    }

    public int rank(int i) {
        if (i < 0 || i > tree.rowLength(chosenRow)) {
            return NONE;
        }
        return tree.onesAhead(chosenRow, i);
    }

    public int select(int k) {
        return tree.placeOfOne(chosenRow, k);
    }

    public int bits(int what) {
        int upperBits = UPPER_NODE_BITS * tree.upperNodes;
        int treeBits = tree.bitsBy(tree.upper);
        switch (what) {
            case 0: return upperBits;
            case 1: return treeBits - upperBits;
            case 2: return leaves.tailBits();
            case 3: return treeBits + leaves.tailBits();
            case 4: return 8 * leaves.owners.allBytes();
            case 5: return tree.rowLength(chosenRow);
            case 6: return tree.onesAhead(chosenRow, tree.rowLength(chosenRow));
            default: return NONE;
        }
    }

    public int least(int what) {
        int best = 0;
        for (int i = 1; i <= tree.levels; i++) {
            if (tree.bitsBy(i) < tree.bitsBy(best)) {
                best = i;
            }
        }
        if (what == 0) {
            return best;
        }
        return what == 1 ? tree.bitsBy(best) + leaves.tailBits() : NONE;
    }

    // ---- how many keys of a length ----

    public long cover(int m) {
        return isCounted(m) ? leaves.covered(m) : NONE;
    }

    public long loose(int m) {
        return isCounted(m) ? leaves.covered(m) - leaves.owners.ofLength(m) : NONE;
    }

    public long free(int i, int m) {
        if (i < 0 || i > leaves.count() || !isCounted(m)) {
            return NONE;
        }
        long behind = i == 0 ? 0L : countUpTo(leaves.highs.bytesAt(i - 1), leaves.highs.lengthAt(i - 1), m);
        if (i == leaves.count()) {
            return (1L << (8 * m)) - behind;
        }
        return countAhead(leaves.lows.bytesAt(i), leaves.lows.lengthAt(i), m) - behind;
    }

    public int spread(int a, int b, int n, int what) {
        if (!isCounted(n) || what < 0 || what > 2) {
            return NONE;
        }
        long key = keyOf(a, b, n);
        int mayBe = 0;
        int falsely = 0;
        int least = NONE;
        for (int octet = 0; octet < OCTETS; octet++) {
            int verdict = leaves.verdictOf(key | octetTo(octet, n), n + 1);
            if (verdict != ABSENT) {
                mayBe++;
                least = least == NONE ? octet : least;
            }
            if (verdict == FALSELY) {
                falsely++;
            }
        }
        if (what == 2) {
            return least;
        }
        return what == 0 ? mayBe : falsely;
    }

    // ---- questions, storms, the account ----

    public int question(int a, int b, int n) {
        if (!isLength(n) || now.questions.count >= MOST_QUESTIONS) {
            return NONE;
        }
        now.questions.append(keyOf(a, b, n), n);
        return now.questions.count;
    }

    public int forget() {
        int were = now.questions.count;
        now.questions.count = 0;
        return were;
    }

    public int tuned(int w, int what) {
        if (w < 0 || w > 2 * MOST_TAIL_BITS || what < 0 || what > 2) {
            return NONE;
        }
        tuning.tune(leaves, now.questions, w);
        if (what == 2) {
            return tuning.falsely;
        }
        return what == 0 ? tuning.hashBits : tuning.realBits;
    }

    public int storm(int n, int m) {
        if (n < 1 || n > MOST_DRAWN || !isLength(m)) {
            return NONE;
        }
        int falsely = 0;
        for (int i = 0; i < n; i++) {
            int length = now.draw(m) + 1;
            long key = now.drawBytes(length);
            if (askKey(key, length) == FALSELY) {
                falsely++;
            }
        }
        return falsely;
    }

    public int stormRange(int n, int m, int w) {
        if (n < 1 || n > MOST_DRAWN || !isLength(m) || w < 0 || w >= OCTETS) {
            return NONE;
        }
        int falsely = 0;
        for (int i = 0; i < n; i++) {
            int length = now.draw(m) + 1;
            long key = now.drawBytes(length);
            int last = octetAt(key, length - 1);
            long to = key & front(length - 1) | octetTo(Math.min(last + w, OCTETS - 1), length - 1);
            if (askRange(key, length, to, length) == FALSELY) {
                falsely++;
            }
        }
        return falsely;
    }

    public int account(int what) {
        return what >= 0 && what < ACCOUNT_ROOM ? at(now.answers, what) : NONE;
    }

    public int since(int what) {
        Keys members = now.told.members;
        switch (what) {
            case 0: return members.notIn(leaves.owners);
            case 1: return newOnesThatMayBe();
            case 2: return leaves.owners.notIn(members);
            default: return NONE;
        }
    }

    // ---- texts, the image, a look ----

    public int report(int leaf) {
        if (leaf < NONE || leaf >= leaves.count()) {
            return NONE;
        }
        text.length = 0;
        if (leaf == NONE) {
            tellFilter();
        } else {
            tellLeaf(leaf);
        }
        return text.length;
    }

    public int sign(int i) {
        return text.signAt(i);
    }

    public boolean image(boolean taken) {
        if (taken) {
            kept.copyFrom(now);
            isKept = true;
        } else if (isKept) {
            now.copyFrom(kept);
            rebuild();
        }
        return isKept;
    }

    public int look(int what) {
        switch (what) {
            case 6: return now.told.mode;
            case 7: return now.draws;
            case 8: return now.told.members.count;
            case 9: return leaves.count();
            case 10: return tree.nodes;
            case 11: return tree.levels;
            case 12: return tree.upper;
            case 13: return tree.upperNodes;
            case 14: return tree.items();
            case 15: return leaves.hashBits;
            case 16: return leaves.realBits;
            case 17: return now.questions.count;
            case 18: return tape.count;
            case 19: return leaves.allEnded();
            case 20: return leaves.allBytes();
            default: return what >= 0 && what < TOLD_ROOM ? at(now.told.values, what) : NO_LOOK;
        }
    }

    // ---- what the calls above share ----

    private void rebuild() {
        leaves.make(now.built);
        tree.make(leaves, at(now.built.values, DENSE), at(now.built.values, RATIO));
    }

    private int askKey(long key, int n) {
        int verdict = leaves.verdictOf(key, n);
        now.note(OF_KEYS, verdict);
        return verdict;
    }

    private int askRange(long from, int n, long to, int m) {
        int verdict = ABSENT;
        if (leaves.met(from, n, to, m) > 0) {
            boolean anyKey = leaves.owners.upTo(to, m) > leaves.owners.ahead(from, n);
            verdict = anyKey ? PRESENT : FALSELY;
        }
        now.note(OF_RANGES, verdict);
        return verdict;
    }

    private int newOnesThatMayBe() {
        Keys members = now.told.members;
        int count = 0;
        for (int i = 0; i < members.count; i++) {
            if (leaves.verdictOf(members.bytesAt(i), members.lengthAt(i)) == FALSELY) {
                count++;
            }
        }
        return count;
    }

    private void tellFilter() {
        for (int i = 0; i < tree.levels; i++) {
            if (i > 0) {
                text.put(',');
            }
            int from = at(tree.levelStarts, i);
            int to = at(tree.levelStarts, i + 1);
            text.put(i < tree.upper ? 'd' : 's');
            text.putNumber(to - from);
            text.put(':');
            text.putNumber(tree.branches(from, to));
        }
        text.put('.');
    }

    private void tellLeaf(int leaf) {
        long key = leaves.owners.bytesAt(leaf);
        for (int i = 0; i < leaves.lengthAt(leaf); i++) {
            text.putOctet(octetAt(key, i));
        }
        if (leaves.isEnded(leaf)) {
            text.put('$');
        }
        if (leaves.hashBits != 0) {
            text.put('#');
            text.putNumber(leaves.hashAt(leaf));
        }
        if (leaves.realBits != 0) {
            text.put('/');
            for (int i = leaves.realBits - 1; i >= 0; i--) {
                text.put((leaves.nextAt(leaf) >> i & 1) == 1 ? '1' : '0');
            }
        }
    }

    private static String modeName(int number) {
        switch (number) {
            case 0: return "none";
            case MODE_HASH: return "hash";
            case MODE_REAL: return "real";
            default: return "both";
        }
    }

    private static String rowName(int number) {
        switch (number) {
            case ROW_LABELS: return "labels";
            case ROW_KIDS: return "kids";
            case ROW_ENDS: return "ends";
            case ROW_MARKS: return "marks";
            case ROW_LOWER: return "lower";
            default: return "firsts";
        }
    }

    private static boolean isLength(int n) {
        return n >= 1 && n <= MOST_BYTES;
    }

    /** Lengths whose keys a long can count, and that leave room for one byte more. */
    private static boolean isCounted(int m) {
        return m >= 1 && m < MOST_BYTES;
    }

    private static boolean isRange(int a, int b, int n, int c, int d, int m) {
        return isLength(n) && isLength(m) && order(keyOf(a, b, n), n, keyOf(c, d, m), m) <= 0;
    }

    private static long keyOf(int a, int b, int n) {
        return ((long) a << 32 | b & 0xFFFFFFFFL) & front(n);
    }

    /** Ones over the first n bytes. */
    private static long front(int n) {
        if (n <= 0) {
            return 0L;
        }
        return n >= MOST_BYTES ? -1L : -1L << (64 - 8 * n);
    }

    private static int octetAt(long key, int i) {
        return i < 0 || i >= MOST_BYTES ? 0 : (int) (key >>> (56 - 8 * i)) & 255;
    }

    private static long octetTo(int octet, int i) {
        return i < 0 || i >= MOST_BYTES ? 0L : (long) octet << (56 - 8 * i);
    }

    /** Below 0, 0, above 0: the first key is ahead, the same, behind. */
    private static int order(long key, int n, long other, int m) {
        if (key == other) {
            return n - m;
        }
        return (key ^ SIGN_BIT) < (other ^ SIGN_BIT) ? -1 : 1;
    }

    private static int alike(long key, int n, long other, int m) {
        int most = Math.min(n, m);
        for (int i = 0; i < most; i++) {
            if (octetAt(key, i) != octetAt(other, i)) {
                return i;
            }
        }
        return most;
    }

    /** How many keys of m bytes (1 .. 7) are ahead of a key. */
    private static long countAhead(long key, int n, int m) {
        return (key >>> (64 - 8 * m)) + (n > m ? 1L : 0L);
    }

    /** How many keys of m bytes (1 .. 7) are a key or ahead of it. */
    private static long countUpTo(long key, int n, int m) {
        return (key >>> (64 - 8 * m)) + (n >= m ? 1L : 0L);
    }

    private static int mixed(int salt, long key, int n) {
        int x = salt;
        for (int i = 0; i < n; i++) {
            x = (x ^ octetAt(key, i)) * 16777619;
        }
        return x ^ x >>> 15;
    }

    private static int lowest(int x, int howMany) {
        return x & (1 << howMany) - 1;
    }

    private static int highest(int octet, int howMany) {
        return octet >> (8 - howMany);
    }

    private static int at(int[] row, int i) {
        return i >= 0 && i < row.length ? row[i] : NONE;
    }

    /** Keys in a row: sorted where they are inserted, as they came where they are appended. */
    private static final class Keys {
        final long[] bytes = new long[MOST_KEYS];
        final int[] lengths = new int[MOST_KEYS];
        int count = 0;

        long bytesAt(int i) {
            return i >= 0 && i < count ? bytes[i] : 0L;
        }

        int lengthAt(int i) {
            return i >= 0 && i < count ? lengths[i] : 0;
        }

        int ahead(long key, int n) {
            return counted(key, n, 0);
        }

        int upTo(long key, int n) {
            return counted(key, n, 1);
        }

        /** How many compare below that limit with the key: steps halve, as the row is sorted. */
        private int counted(long key, int n, int limit) {
            int found = 0;
            for (int step = MOST_KEYS; step > 0; step /= 2) {
                int last = found + step - 1;
                if (last < count && order(bytesAt(last), lengthAt(last), key, n) < limit) {
                    found += step;
                }
            }
            return found;
        }

        int numberOf(long key, int n) {
            int number = ahead(key, n);
            return bytesAt(number) == key && lengthAt(number) == n ? number : NONE;
        }

        int insert(long key, int n) {
            int number = ahead(key, n);
            if (count >= MOST_KEYS || bytesAt(number) == key && lengthAt(number) == n) {
                return NONE;
            }
            for (int i = count; i > number; i--) {
                bytes[i] = bytes[i - 1];
                lengths[i] = lengths[i - 1];
            }
            bytes[number] = key;
            lengths[number] = n;
            count++;
            return number;
        }

        void append(long key, int n) {
            if (count < MOST_KEYS) {
                bytes[count] = key;
                lengths[count] = n;
                count++;
            }
        }

        void drop(int number) {
            if (number >= 0 && number < count) {
                for (int i = number + 1; i < count; i++) {
                    bytes[i - 1] = bytes[i];
                    lengths[i - 1] = lengths[i];
                }
                count--;
            }
        }

        void copyFrom(Keys other) {
            System.arraycopy(other.bytes, 0, bytes, 0, MOST_KEYS);
            System.arraycopy(other.lengths, 0, lengths, 0, MOST_KEYS);
            count = other.count;
        }

        int notIn(Keys other) {
            int missing = 0;
            for (int i = 0; i < count; i++) {
                if (other.numberOf(bytesAt(i), lengthAt(i)) == NONE) {
                    missing++;
                }
            }
            return missing;
        }

        int ofLength(int m) {
            int found = 0;
            for (int i = 0; i < count; i++) {
                if (lengthAt(i) == m) {
                    found++;
                }
            }
            return found;
        }

        int allBytes() {
            int sum = 0;
            for (int i = 0; i < count; i++) {
                sum += lengthAt(i);
            }
            return sum;
        }
    }

    /** All of which a filter is built: keys, what can be told, the mode. */
    private static final class Plan {
        final Keys members = new Keys();
        final int[] values = new int[TOLD_ROOM];
        int mode = 0;

        Plan() {
            System.arraycopy(TOLD_AT_FIRST, 0, values, 0, TOLD_ROOM);
        }

        void copyFrom(Plan other) {
            members.copyFrom(other.members);
            System.arraycopy(other.values, 0, values, 0, TOLD_ROOM);
            mode = other.mode;
        }
    }

    /** All that an image keeps; the filter is kept as the plan by which it was built. */
    private static final class Moment {
        final Plan told = new Plan();
        final Plan built = new Plan();
        final Keys questions = new Keys();
        final int[] answers = new int[ACCOUNT_ROOM];
        int draws = 0;

        void copyFrom(Moment other) {
            told.copyFrom(other.told);
            built.copyFrom(other.built);
            questions.copyFrom(other.questions);
            System.arraycopy(other.answers, 0, answers, 0, ACCOUNT_ROOM);
            draws = other.draws;
        }

        int draw(int m) {
            draws = 1664525 * draws + 1013904223;
            return m > 0 ? (draws >>> 8) % m : 0;
        }

        long drawBytes(int n) {
            long key = 0L;
            for (int i = 0; i < n; i++) {
                key |= octetTo(draw(at(told.values, ALPHABET)), i);
            }
            return key;
        }

        void note(int from, int verdict) {
            if (from >= 0 && from + 2 < ACCOUNT_ROOM) {
                answers[from]++;
                answers[from + 1] += verdict == ABSENT ? 0 : 1;
                answers[from + 2] += verdict == FALSELY ? 1 : 0;
            }
        }
    }

    /** The leaves: beginnings, tails, and from where to where keys are possible at each. */
    private static final class Leaves {
        final Keys owners = new Keys();
        final Keys lows = new Keys();
        final Keys highs = new Keys();
        final int[] commons = new int[MOST_KEYS];
        final int[] lengths = new int[MOST_KEYS];
        final int[] hashes = new int[MOST_KEYS];
        final int[] nexts = new int[MOST_KEYS];
        int hashBits = 0;
        int realBits = 0;
        int salt = 0;

        void make(Plan plan) {
            boolean hashed = plan.mode == MODE_HASH || plan.mode == MODE_BOTH;
            boolean real = plan.mode == MODE_REAL || plan.mode == MODE_BOTH;
            hashBits = hashed ? at(plan.values, HASHED) : 0;
            realBits = real ? at(plan.values, REAL) : 0;
            salt = at(plan.values, SALT);
            owners.copyFrom(plan.members);
            lows.count = 0;
            highs.count = 0;
            for (int i = 0; i < owners.count; i++) {
                cut(i);
                bound(i);
            }
        }

        int count() {
            return owners.count;
        }

        private void cut(int i) {
            long key = owners.bytesAt(i);
            int n = owners.lengthAt(i);
            int common = Math.max(alike(key, n, owners.bytesAt(i - 1), owners.lengthAt(i - 1)),
                    alike(key, n, owners.bytesAt(i + 1), owners.lengthAt(i + 1)));
            commons[i] = common;
            lengths[i] = Math.min(common + 1, n);
            hashes[i] = mixed(salt, key, n);
            // Behind the last byte of a key lie zeros, which is the NEXT that is due there.
            nexts[i] = octetAt(key, lengths[i]);
        }

        private void bound(int i) {
            int n = lengthAt(i);
            long key = owners.bytesAt(i) & front(n);
            if (isEnded(i) || n >= MOST_BYTES) {
                lows.append(key, n);
                highs.append(key, n);
                return;
            }
            int lowest = nextAt(i) << (8 - realBits);
            int highest = lowest | 255 >> realBits;
            lows.append(key | octetTo(lowest, n), lowest == 0 ? n : n + 1);
            highs.append(key | octetTo(highest, n) | ~front(n + 1), MOST_BYTES);
        }

        int lengthAt(int i) {
            return at(lengths, i);
        }

        boolean isEnded(int i) {
            return at(commons, i) == owners.lengthAt(i);
        }

        int hashAt(int i) {
            return lowest(at(hashes, i), hashBits);
        }

        int nextAt(int i) {
            return highest(at(nexts, i), realBits);
        }

        int possibleAt(long key, int n) {
            int i = lows.upTo(key, n) - 1;
            boolean possible = i >= 0 && order(key, n, highs.bytesAt(i), highs.lengthAt(i)) <= 0;
            return possible ? i : NONE;
        }

        int verdictOf(long key, int n) {
            int i = possibleAt(key, n);
            if (i == NONE || lowest(mixed(salt, key, n), hashBits) != hashAt(i)) {
                return ABSENT;
            }
            return owners.bytesAt(i) == key && owners.lengthAt(i) == n ? PRESENT : FALSELY;
        }

        int met(long from, int n, long to, int m) {
            return Math.max(lows.upTo(to, m) - highs.ahead(from, n), 0);
        }

        int held(long from, int n, long to, int m) {
            return Math.max(highs.upTo(to, m) - lows.ahead(from, n), 0);
        }

        long covered(int m) {
            long sum = 0L;
            for (int i = 0; i < owners.count; i++) {
                sum += countUpTo(highs.bytesAt(i), highs.lengthAt(i), m);
                sum -= countAhead(lows.bytesAt(i), lows.lengthAt(i), m);
            }
            return sum;
        }

        /** The leaf that is not ended and with whose beginning a key begins, tails aside. */
        int beginningOf(long key, int n) {
            for (int i = 0; i < owners.count; i++) {
                boolean begins = lengthAt(i) <= n && ((key ^ owners.bytesAt(i)) & front(lengthAt(i))) == 0L;
                if (begins && !isEnded(i)) {
                    return i;
                }
            }
            return NONE;
        }

        int ofLevel(int level) {
            int found = 0;
            for (int i = 0; i < owners.count; i++) {
                if (lengthAt(i) == level + 1 || isEnded(i) && lengthAt(i) == level) {
                    found++;
                }
            }
            return found;
        }

        int allEnded() {
            int found = 0;
            for (int i = 0; i < owners.count; i++) {
                found += isEnded(i) ? 1 : 0;
            }
            return found;
        }

        int allBytes() {
            int sum = 0;
            for (int i = 0; i < owners.count; i++) {
                sum += lengthAt(i);
            }
            return sum;
        }

        int tailBits() {
            return owners.count * (hashBits + realBits);
        }
    }

    /**
     * The nodes by number, and behind one another the edges of each: its end, then its branches by byte. The
     * first edges are those of the upper nodes, the others are the items.
     */
    private static final class Tree {
        final int[] nodeLevels = new int[NODE_ROOM];
        final int[] firstLeaves = new int[NODE_ROOM];
        final int[] leafCounts = new int[NODE_ROOM];
        final int[] edgeStarts = new int[NODE_ROOM + 1];
        final int[] edgeNodes = new int[EDGE_ROOM];
        final int[] edgeOctets = new int[EDGE_ROOM];
        final int[] edgeLeaves = new int[EDGE_ROOM];
        final int[] edgeChildren = new int[EDGE_ROOM];
        final int[] levelStarts = new int[MOST_BYTES + 1];
        final int[] places = new int[MOST_KEYS];
        final int[] leavesByPlace = new int[MOST_KEYS];
        final int[] leafNodes = new int[MOST_KEYS];
        int nodes = 0;
        int edges = 0;
        int children = 0;
        int levels = 0;
        int upper = 0;
        int upperNodes = 0;
        int itemStart = 0;

        void make(Leaves leaves, int dense, int ratio) {
            findNodes(leaves);
            findEdges(leaves);
            findPlaces();
            upper = dense == DENSE_BY_RATIO ? upperBy(ratio) : Math.min(dense, levels);
            upperNodes = at(levelStarts, upper);
            itemStart = at(edgeStarts, upperNodes);
        }

        private void findNodes(Leaves leaves) {
            nodes = 0;
            levels = 0;
            for (int level = 0; level < MOST_BYTES; level++) {
                levelStarts[level] = nodes;
                findNodesOf(level, leaves);
                if (nodes > levelStarts[level]) {
                    levels = level + 1;
                }
            }
            levelStarts[MOST_BYTES] = nodes;
        }

        private void findNodesOf(int level, Leaves leaves) {
            int latest = NONE;
            for (int i = 0; i < leaves.count(); i++) {
                boolean reaches = leaves.lengthAt(i) > level || leaves.isEnded(i) && leaves.lengthAt(i) == level;
                if (reaches) {
                    long differing = leaves.owners.bytesAt(i) ^ leaves.owners.bytesAt(latest);
                    if (latest == NONE || (differing & front(level)) != 0L) {
                        addNode(level, i);
                    }
                    if (nodes > 0 && nodes <= NODE_ROOM) {
                        leafCounts[nodes - 1]++;
                    }
                    latest = i;
                }
            }
        }

        private void addNode(int level, int firstLeaf) {
            if (nodes < NODE_ROOM) {
                nodeLevels[nodes] = level;
                firstLeaves[nodes] = firstLeaf;
                leafCounts[nodes] = 0;
                nodes++;
            }
        }

        private void findEdges(Leaves leaves) {
            edges = 0;
            children = 0;
            for (int node = 0; node < nodes; node++) {
                edgeStarts[node] = edges;
                findEdgesOf(node, leaves);
            }
            edgeStarts[nodes] = edges;
        }

        private void findEdgesOf(int node, Leaves leaves) {
            int level = at(nodeLevels, node);
            int first = at(firstLeaves, node);
            int behind = first + at(leafCounts, node);
            int latest = NONE;
            for (int i = first; i < behind; i++) {
                if (leaves.lengthAt(i) == level) {
                    addEdge(node, NONE, i);
                } else {
                    int octet = octetAt(leaves.owners.bytesAt(i), level);
                    if (octet != latest) {
                        boolean toLeaf = leaves.lengthAt(i) == level + 1 && !leaves.isEnded(i);
                        addEdge(node, octet, toLeaf ? i : NONE);
                    }
                    latest = octet;
                }
            }
        }

        /** Nodes are numbered as the edges that lead to them come, so children are told by counting. */
        private void addEdge(int node, int octet, int leaf) {
            if (edges < EDGE_ROOM) {
                children += leaf == NONE ? 1 : 0;
                edgeNodes[edges] = node;
                edgeOctets[edges] = octet;
                edgeLeaves[edges] = leaf;
                edgeChildren[edges] = leaf == NONE ? children : NONE;
                edges++;
            }
        }

        private void findPlaces() {
            int place = 0;
            for (int i = 0; i < edges; i++) {
                int leaf = at(edgeLeaves, i);
                if (leaf >= 0 && leaf < MOST_KEYS && place < MOST_KEYS) {
                    places[leaf] = place;
                    leavesByPlace[place] = leaf;
                    leafNodes[leaf] = at(edgeNodes, i);
                    place++;
                }
            }
        }

        private int upperBy(int ratio) {
            int most = 0;
            for (int i = 1; i <= levels; i++) {
                int upperBits = UPPER_NODE_BITS * at(levelStarts, i);
                if (ratio * upperBits <= bitsBy(i) - upperBits) {
                    most = i;
                }
            }
            return most;
        }

        /** Bits of all nodes, if so many levels were upper ones. */
        int bitsBy(int upperLevels) {
            int start = at(levelStarts, upperLevels);
            return UPPER_NODE_BITS * start + ITEM_BITS * edgesAmong(start, nodes);
        }

        int items() {
            return edges - itemStart;
        }

        boolean isEnd(int edge) {
            return at(edgeOctets, edge) == NONE;
        }

        boolean hasChild(int edge) {
            return at(edgeChildren, edge) != NONE;
        }

        int edgesAmong(int fromNode, int toNode) {
            return at(edgeStarts, toNode) - at(edgeStarts, fromNode);
        }

        int endsAmong(int fromNode, int toNode) {
            int found = 0;
            for (int i = at(edgeStarts, fromNode); i < at(edgeStarts, toNode); i++) {
                found += isEnd(i) ? 1 : 0;
            }
            return found;
        }

        int branches(int fromNode, int toNode) {
            return edgesAmong(fromNode, toNode) - endsAmong(fromNode, toNode);
        }

        int childrenOf(int node) {
            int found = 0;
            for (int i = at(edgeStarts, node); i < at(edgeStarts, node + 1); i++) {
                found += hasChild(i) ? 1 : 0;
            }
            return found;
        }

        int goneAlong(int node, int octet) {
            for (int i = at(edgeStarts, node); i < at(edgeStarts, node + 1); i++) {
                if (at(edgeOctets, i) == octet) {
                    return hasChild(i) ? at(edgeChildren, i) : LEADS_TO_LEAF;
                }
            }
            return NO_BRANCH;
        }

        private static boolean isOfItems(int row) {
            return row == ROW_MARKS || row == ROW_LOWER || row == ROW_FIRSTS;
        }

        private int firstEdgeOf(int row) {
            return isOfItems(row) ? itemStart : 0;
        }

        private int lastEdgeOf(int row) {
            return isOfItems(row) ? edges - 1 : itemStart - 1;
        }

        int rowLength(int row) {
            if (row == ROW_LABELS || row == ROW_KIDS) {
                return OCTETS * upperNodes;
            }
            return row == ROW_ENDS ? upperNodes : items();
        }

        /** Where in a row an edge puts a one (NONE if it puts none): later edges put theirs behind it. */
        private int oneOf(int row, int edge) {
            int node = at(edgeNodes, edge);
            switch (row) {
                case ROW_LABELS: return isEnd(edge) ? NONE : OCTETS * node + at(edgeOctets, edge);
                case ROW_KIDS: return hasChild(edge) ? OCTETS * node + at(edgeOctets, edge) : NONE;
                case ROW_ENDS: return isEnd(edge) ? node : NONE;
                case ROW_MARKS: return isEnd(edge) ? edge - itemStart : NONE;
                case ROW_LOWER: return hasChild(edge) ? edge - itemStart : NONE;
                default: return edge == at(edgeStarts, node) ? edge - itemStart : NONE;
            }
        }

        int onesAhead(int row, int place) {
            int found = 0;
            int last = lastEdgeOf(row);
            for (int i = firstEdgeOf(row); i <= last; i++) {
                int one = oneOf(row, i);
                found += one != NONE && one < place ? 1 : 0;
            }
            return found;
        }

        int placeOfOne(int row, int number) {
            int found = 0;
            int last = lastEdgeOf(row);
            for (int i = firstEdgeOf(row); i <= last; i++) {
                int one = oneOf(row, i);
                if (one != NONE) {
                    if (found == number) {
                        return one;
                    }
                    found++;
                }
            }
            return NONE;
        }
    }

    /** How many bits of its leaf's tail each question has alike, and the best numbers of them. */
    private static final class Tuning {
        final int[] likeHash = new int[MOST_QUESTIONS];
        final int[] likeNext = new int[MOST_QUESTIONS];
        int count = 0;
        int hashBits = 0;
        int realBits = 0;
        int falsely = 0;

        void tune(Leaves leaves, Keys questions, int most) {
            count = Math.min(questions.count, MOST_QUESTIONS);
            for (int i = 0; i < count; i++) {
                compare(leaves, questions.bytesAt(i), questions.lengthAt(i), i);
            }
            hashBits = 0;
            realBits = 0;
            falsely = falseBy(0, 0);
            for (int sum = 1; sum <= most; sum++) {
                for (int h = Math.max(sum - MOST_TAIL_BITS, 0); h <= Math.min(sum, MOST_TAIL_BITS); h++) {
                    int by = falseBy(h, sum - h);
                    if (by < falsely) {
                        falsely = by;
                        hashBits = h;
                        realBits = sum - h;
                    }
                }
            }
        }

        /** NONE alike tells that the question is false by no tails at all. */
        private void compare(Leaves leaves, long key, int n, int i) {
            int leaf = leaves.owners.numberOf(key, n) == NONE ? leaves.beginningOf(key, n) : NONE;
            if (i >= 0 && i < MOST_QUESTIONS) {
                likeHash[i] = NONE;
                likeNext[i] = NONE;
                if (leaf != NONE) {
                    int differing = mixed(leaves.salt, key, n) ^ at(leaves.hashes, leaf);
                    int others = octetAt(key, leaves.lengthAt(leaf)) ^ at(leaves.nexts, leaf);
                    likeHash[i] = zerosFromLowest(differing);
                    likeNext[i] = zerosFromHighest(others);
                }
            }
        }

        private static int zerosFromLowest(int x) {
            int zeros = 0;
            while (zeros < MOST_TAIL_BITS && lowest(x, zeros + 1) == 0) {
                zeros++;
            }
            return zeros;
        }

        private static int zerosFromHighest(int octet) {
            int zeros = 0;
            while (zeros < MOST_TAIL_BITS && highest(octet, zeros + 1) == 0) {
                zeros++;
            }
            return zeros;
        }

        private int falseBy(int h, int r) {
            int found = 0;
            for (int i = 0; i < count; i++) {
                found += at(likeHash, i) >= h && at(likeNext, i) >= r ? 1 : 0;
            }
            return found;
        }
    }

    /** Bytes that were fed. */
    private static final class Tape {
        final int[] octets = new int[TAPE_ROOM];
        int count = 0;

        void putFour(int four) {
            for (int shift = 24; shift >= 0; shift -= 8) {
                if (count < TAPE_ROOM) {
                    octets[count] = four >>> shift & 255;
                    count++;
                }
            }
        }

        boolean spells(String name) {
            if (name.length() != count) {
                return false;
            }
            for (int i = 0; i < count; i++) {
                if (name.charAt(i) != at(octets, i)) {
                    return false;
                }
            }
            return true;
        }

        /** Whether all of it could be read as keys and all of these had room. */
        boolean readInto(Keys keys) {
            int i = 0;
            while (i < count) {
                int n = at(octets, i);
                if (!isLength(n) || i + n >= count) {
                    return false;
                }
                long key = keyAt(i + 1, n);
                if (keys.numberOf(key, n) == NONE && keys.insert(key, n) == NONE) {
                    return false;
                }
                i += n + 1;
            }
            return true;
        }

        private long keyAt(int from, int n) {
            long key = 0L;
            for (int i = 0; i < n; i++) {
                key |= octetTo(at(octets, from + i), i);
            }
            return key;
        }
    }

    /** The latest report. */
    private static final class Text {
        final char[] signs = new char[TEXT_ROOM];
        int length = 0;

        void put(char sign) {
            if (length < TEXT_ROOM) {
                signs[length] = sign;
                length++;
            }
        }

        void putNumber(int number) {
            for (int unit = 1000000000; unit > 0; unit /= 10) {
                if (unit == 1 || number >= unit) {
                    put((char) ('0' + number / unit % 10));
                }
            }
        }

        void putOctet(int octet) {
            putHalf(octet >> 4);
            putHalf(octet & 15);
        }

        private void putHalf(int half) {
            put((char) (half < 10 ? '0' + half : 'a' + half - 10));
        }

        int signAt(int i) {
            return i >= 0 && i < length ? signs[i] : NONE;
        }
    }
}
