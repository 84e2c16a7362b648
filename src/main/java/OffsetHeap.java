import java.util.Arrays;

/**
 * A memory of words that is made compact in one pass: marks and a table of offsets tell every new
 * address before anything is moved; then all that lives is copied in order to a fresh space.
 */
public final class OffsetHeap {
    public static final int BAD = -1;

    private static final int LEAST_WORDS = 16;
    private static final int MOST_WORDS = 4000;
    private static final int USUAL_BLOCK = 32;
    private static final int MOST_REFERENCES = 15;
    private static final int MOST_PLAIN = 100;
    private static final int MOST_STEPS = 100;
    private static final int ROOTS = 8;

    private final int last;
    private final int blockWords;
    private final int blocks;
    private final int[] roots;
    private final BitRow bits;
    private final int[] offsets;
    // Rows for one call's search, kept so that no call has to make its own.
    private final int[] found;
    private final BitRow seen;

    // A header may look like any other word, so where objects begin is kept beside the words.
    private final BitRow starts;

    private int[] space;
    private int[] fresh;
    private int top;
    private int objects;
    private int collectings;
    private int wordsRead;

    public OffsetHeap(int words, int block) {
        last = Math.max(LEAST_WORDS, Math.min(MOST_WORDS, words));
        blockWords = isBlockSize(block) ? block : USUAL_BLOCK;
        blocks = last / blockWords + 1;
        roots = new int[ROOTS];
        bits = new BitRow(last);
        offsets = new int[blocks];
        found = new int[last];
        seen = new BitRow(last);
        starts = new BitRow(last);
        space = new int[last + 1];
        fresh = new int[last + 1];
        top = 1;
    }

    public int make(int references, int words) {
        if (references < 0 || references > MOST_REFERENCES || words < 0 || words > MOST_PLAIN) {
            return BAD;
        }
        int header = headerOf(references, words);
        if (sizeBy(header) > last + 1 - top) {
            return 0;
        }
        int address = top;
        // The words behind the top are 0 already, so the header alone is written.
        space[address] = header;
        starts.put(address);
        top += sizeBy(header);
        objects++;
        return address;
    }

    public boolean refer(int object, int k, int to) {
        if (!isObject(object) || k < 0 || k >= referencesBy(space[object]) || !isObjectOrNone(to)) {
            return false;
        }
        space[object + 1 + k] = to;
        return true;
    }

    public boolean set(int object, int k, int v) {
        if (!isObject(object) || k < 0 || k >= plainBy(space[object])) {
            return false;
        }
        space[object + 1 + referencesBy(space[object]) + k] = v;
        return true;
    }

    public boolean root(int k, int object) {
        if (!isRoot(k) || !isObjectOrNone(object)) {
            return false;
        }
        roots[k] = object;
        return true;
    }

    public int collect() {
        markLiving();
        int living = fillOffsets();
        copyLiving();
        leadRootsAnew();
        swapSpaces();
        top = 1 + living;
        collectings++;
        return living;
    }

    public int word(int i) {
        return isWord(i) ? space[i] : BAD;
    }

    public boolean isObject(int address) {
        return address >= 1 && address < top && starts.has(address);
    }

    public int rootOf(int k) {
        return isRoot(k) ? roots[k] : BAD;
    }

    public int bit(int i) {
        if (!isWord(i)) {
            return BAD;
        }
        return bits.has(i) ? 1 : 0;
    }

    public int offset(int block) {
        return block >= 0 && block < blocks ? offsets[block] : BAD;
    }

    public int moved(int i) {
        if (!isWord(i)) {
            return BAD;
        }
        return bits.has(i) ? newAddress(i) : 0;
    }

    public int reads() {
        return wordsRead;
    }

    public int near(int steps) {
        return steps >= 0 && steps <= MOST_STEPS ? findWithin(steps) : BAD;
    }

    public boolean sound() {
        return objectsLieInARow() && rootsLeadToHeaders() && referencesLeadToHeaders()
            && newAddressesFollowFromBits();
    }

    public int count(int what) {
        switch (what) {
            case 0: return top;
            case 1: return objects;
            case 2: return collectings;
            case 3: return last;
            case 4: return blocks;
            default: return BAD;
        }
    }

    private static boolean isBlockSize(int block) {
        return block == 8 || block == 16 || block == 32 || block == 64;
    }

    private static int headerOf(int references, int plain) {
        return 256 * plain + 16 * references;
    }

    private static int referencesBy(int header) {
        return (header >> 4) & 15;
    }

    private static int plainBy(int header) {
        return header >> 8;
    }

    private static int sizeBy(int header) {
        return 1 + referencesBy(header) + plainBy(header);
    }

    private boolean isWord(int i) {
        return i >= 0 && i <= last;
    }

    private static boolean isRoot(int k) {
        return k >= 0 && k < ROOTS;
    }

    private boolean isObjectOrNone(int address) {
        return address == 0 || isObject(address);
    }

    /** Lists in found, nearest first, what roots lead to by at most so many references: how many. */
    private int findWithin(int steps) {
        seen.clear();
        int size = 0;
        for (int k = 0; k < ROOTS; k++) {
            size = find(roots[k], size);
        }
        int from = 0;
        for (int step = 0; step < steps && from < size; step++) {
            int end = size;
            for (int f = from; f < end; f++) {
                size = findReferred(found[f], size);
            }
            from = end;
        }
        return size;
    }

    private int findReferred(int object, int size) {
        int references = referencesBy(space[object]);
        int now = size;
        for (int k = 0; k < references; k++) {
            now = find(space[object + 1 + k], now);
        }
        return now;
    }

    private int find(int address, int size) {
        if (address == 0 || seen.has(address)) {
            return size;
        }
        seen.put(address);
        found[size] = address;
        return size + 1;
    }

    private void markLiving() {
        // No way without a circle has as many references as there are words.
        int size = findWithin(last);
        bits.clear();
        for (int f = 0; f < size; f++) {
            int behind = found[f] + sizeBy(space[found[f]]);
            for (int i = found[f]; i < behind; i++) {
                bits.put(i);
            }
        }
    }

    private int fillOffsets() {
        int before = 0;
        for (int i = 0; i <= last; i++) {
            if (i % blockWords == 0) {
                offsets[i / blockWords] = before;
            }
            if (bits.has(i)) {
                before++;
            }
        }
        return before;
    }

    /** The new address of a word whose bit is set. */
    private int newAddress(int i) {
        int block = i / blockWords;
        return 1 + offsets[block] + bits.between(block * blockWords, i);
    }

    private int newAddressOrNone(int address) {
        return address == 0 ? 0 : newAddress(address);
    }

    /**
     * A header that was read says what the words behind it are, so none is read a second time, and
     * where objects began is not asked: the row is free to take where they begin now.
     */
    private void copyLiving() {
        Arrays.fill(fresh, 0);
        starts.clear();
        wordsRead = 0;
        objects = 0;
        int references = 0;
        int plain = 0;
        for (int i = 1; i < top; i++) {
            if (!bits.has(i)) {
                continue;
            }
            int value = space[i];
            wordsRead++;
            int to = newAddress(i);
            if (references > 0) {
                references--;
                fresh[to] = newAddressOrNone(value);
            } else if (plain > 0) {
                plain--;
                fresh[to] = value;
            } else {
                references = referencesBy(value);
                plain = plainBy(value);
                fresh[to] = value;
                starts.put(to);
                objects++;
            }
        }
    }

    private void leadRootsAnew() {
        for (int k = 0; k < ROOTS; k++) {
            roots[k] = newAddressOrNone(roots[k]);
        }
    }

    private void swapSpaces() {
        int[] oldSpace = space;
        space = fresh;
        fresh = oldSpace;
    }

    private boolean objectsLieInARow() {
        int next = 1;
        for (int i = 1; i < top; i++) {
            if (starts.has(i) != (i == next)) {
                return false;
            }
            if (i == next) {
                next = i + sizeBy(space[i]);
            }
        }
        return next == top;
    }

    private boolean rootsLeadToHeaders() {
        for (int k = 0; k < ROOTS; k++) {
            if (!isObjectOrNone(roots[k])) {
                return false;
            }
        }
        return true;
    }

    private boolean referencesLeadToHeaders() {
        for (int i = 1; i < top; i++) {
            if (starts.has(i) && !referencesOfLeadToHeaders(i)) {
                return false;
            }
        }
        return true;
    }

    private boolean referencesOfLeadToHeaders(int object) {
        int references = referencesBy(space[object]);
        for (int k = 0; k < references; k++) {
            if (!isObjectOrNone(space[object + 1 + k])) {
                return false;
            }
        }
        return true;
    }

    private boolean newAddressesFollowFromBits() {
        int before = 0;
        for (int i = 0; i <= last; i++) {
            if (bits.has(i)) {
                if (newAddress(i) != 1 + before) {
                    return false;
                }
                before++;
            }
        }
        return true;
    }

    /** A bit for each word 0 .. last, 64 to a long. */
    private static final class BitRow {
        private final long[] row;

        BitRow(int last) {
            row = new long[last / 64 + 1];
        }

        boolean has(int i) {
            return ((row[i >> 6] >>> (i & 63)) & 1L) != 0L;
        }

        void put(int i) {
            row[i >> 6] |= 1L << (i & 63);
        }

        void clear() {
            Arrays.fill(row, 0L);
        }

        /** How many bits are set in from .. to - 1, both in one long, as all words of a block are. */
        int between(int from, int to) {
            long notBefore = -1L << (from & 63);
            long before = (1L << (to & 63)) - 1L;
            return Long.bitCount(row[to >> 6] & notBefore & before);
        }
    }
}
