import java.util.NoSuchElementException;

/**
 * A group of permutations of at most seven points, given by generators.
 *
 * The group is never listed. It is held as a chain of entries: the entry of level i for point x is an
 * element that leaves the points below i alone and gives i the image x. Every element is, in just one
 * way, the product of one entry of each level, the highest level first; so the entries tell how many
 * elements there are, and they can be taken one level after the other in the order of permutations.
 *
 * A level has eight slots, so that every image that three bits can tell stays inside the level.
 */
public final class PermGroup {
    private static final int FIRST_POINTS = 5;
    private static final int MOST_POINTS = 7;
    private static final int MOST_GENERATORS = 12;
    private static final int BITS = 3;
    private static final int MASK = 7;
    private static final int SLOTS = 8;
    private static final int MOST_ENTRIES = MOST_POINTS * (MOST_POINTS - 1) / 2;
    private static final int NONE = -1;

    private int n;
    private int identity;
    private int count;
    private final int[] added = new int[MOST_GENERATORS];

    // Row k belongs to the first k generators, so that dropping one only steps back a row.
    private final int[][] chains = new int[MOST_GENERATORS + 1][MOST_POINTS * SLOTS];

    // The slots of the newest row that hold another entry than the identity; used only inside add.
    private final int[] filled = new int[MOST_ENTRIES];
    private int filledCount;

    public PermGroup() {
        begin(FIRST_POINTS);
    }

    public boolean points(int n) {
        if (n < 1 || n > MOST_POINTS) {
            return false;
        }
        begin(n);
        return true;
    }

    public int degree() {
        return n;
    }

    public int add(int p) {
        if (!isPermutation(p)) {
            return -1;
        }
        if (count >= MOST_GENERATORS) {
            return -2;
        }
        added[count] = p;
        System.arraycopy(chains[count], 0, chains[count + 1], 0, MOST_POINTS * SLOTS);
        count++;
        extendBy(p);
        return count - 1;
    }

    public boolean drop() {
        if (count == 0) {
            return false;
        }
        count--;
        return true;
    }

    public int generators() {
        return count;
    }

    public int generator(int k) {
        return k < 0 || k >= count ? -1 : added[k];
    }

    public int product(int p, int q) {
        return isPermutation(p) && isPermutation(q) ? compose(p, q) : -1;
    }

    public int inverse(int p) {
        return isPermutation(p) ? invert(p) : -1;
    }

    public int order() {
        return fixersOfFirst(0);
    }

    public boolean contains(int p) {
        return isPermutation(p) && isElement(p);
    }

    public int element(int k) throws IndexOutOfBoundsException {
        if (k < 0 || k >= fixersOfFirst(0)) {
            throw new IndexOutOfBoundsException("no element has this number");
        }
        return inCoset(identity, k);
    }

    public int rank(int p) throws IllegalArgumentException, NoSuchElementException {
        if (!isPermutation(p)) {
            throw new IllegalArgumentException("no permutation");
        }
        if (!isElement(p)) {
            throw new NoSuchElementException("no element of the group");
        }
        return elementsBefore(p);
    }

    public int least(int p) throws IllegalArgumentException {
        if (!isPermutation(p)) {
            throw new IllegalArgumentException("no permutation");
        }
        return inCoset(p, 0);
    }

    public int orbit(int x) {
        if (x < 0 || x >= n) {
            return 0;
        }
        int reached = 1 << x;
        // Each round but the last reaches a new point, so n rounds are enough.
        for (int round = 0; round < n; round++) {
            for (int k = 0; k < count; k++) {
                reached |= imagesOf(reached, added[k]);
            }
        }
        return reached;
    }

    public int fixing(int k) {
        return k < 0 || k > n ? 0 : fixersOfFirst(k);
    }

    public int even() {
        int all = fixersOfFirst(0);
        for (int k = 0; k < count; k++) {
            if (isOdd(added[k])) {
                // Products with one odd element pair the even elements with the odd ones.
                return all / 2;
            }
        }
        return all;
    }

    private void begin(int points) {
        n = points;
        count = 0;
        identity = 0;
        for (int i = 0; i < n; i++) {
            identity |= i << BITS * i;
        }
        int[] chain = chains[0];
        for (int slot = 0; slot < MOST_POINTS * SLOTS; slot++) {
            chain[slot] = NONE;
        }
        for (int i = 0; i < n; i++) {
            chain[slotOf(i, i)] = identity;
        }
    }

    private boolean isPermutation(int p) {
        if (p >>> BITS * n != 0) {
            return false;
        }
        int seen = 0;
        for (int i = 0; i < n; i++) {
            seen |= 1 << image(p, i);
        }
        return seen == (1 << n) - 1;
    }

    private static int image(int p, int i) {
        return p >>> BITS * i & MASK;
    }

    private int compose(int p, int q) {
        int result = 0;
        for (int i = 0; i < n; i++) {
            result |= image(q, image(p, i)) << BITS * i;
        }
        return result;
    }

    private int invert(int p) {
        int result = 0;
        for (int i = 0; i < n; i++) {
            result |= i << BITS * image(p, i);
        }
        return result;
    }

    private boolean isOdd(int p) {
        int inversions = 0;
        for (int j = 1; j < n; j++) {
            for (int i = 0; i < j; i++) {
                if (image(p, i) > image(p, j)) {
                    inversions++;
                }
            }
        }
        return (inversions & 1) == 1;
    }

    private int imagesOf(int points, int p) {
        int result = 0;
        for (int i = 0; i < n; i++) {
            if ((points >>> i & 1) == 1) {
                result |= 1 << image(p, i);
            }
        }
        return result;
    }

    private static int slotOf(int level, int x) {
        return level * SLOTS + x;
    }

    private int entry(int level, int x) {
        return chains[count][slotOf(level, x)];
    }

    /** The product of all levels' numbers of entries, from level k on. */
    private int fixersOfFirst(int k) {
        int result = 1;
        for (int level = k; level < n; level++) {
            int entries = 0;
            for (int x = level; x < n; x++) {
                if (entry(level, x) != NONE) {
                    entries++;
                }
            }
            result *= entries;
        }
        return result;
    }

    /** What is left of p when the entries that it is made of are taken off, as far as there are such. */
    private int residue(int p) {
        int rest = p;
        for (int level = 0; level < n; level++) {
            int x = image(rest, level);
            if (x != level) {
                int taken = entry(level, x);
                if (taken == NONE) {
                    return rest;
                }
                rest = compose(rest, invert(taken));
            }
        }
        return rest;
    }

    private boolean isElement(int p) {
        return residue(p) == identity;
    }

    /**
     * Makes the newest row, a copy of the one before, the chain of the group that p generates with it.
     * A chain is whole when the product of any two entries, the first one's level not above the
     * other's, is made of entries again; for two old entries it is so already.
     */
    private void extendBy(int p) {
        listFilled();
        int old = filledCount;
        enter(p);
        for (int a = old; a < MOST_ENTRIES; a++) {
            if (a >= filledCount || isFull()) {
                return;
            }
            for (int b = 0; b <= a; b++) {
                enterProduct(filled[a], filled[b]);
                enterProduct(filled[b], filled[a]);
            }
        }
    }

    private void listFilled() {
        filledCount = 0;
        for (int level = 0; level < n; level++) {
            for (int x = level + 1; x < n; x++) {
                if (entry(level, x) != NONE) {
                    noteFilled(slotOf(level, x));
                }
            }
        }
    }

    private void noteFilled(int slot) {
        if (filledCount < MOST_ENTRIES) {
            filled[filledCount] = slot;
            filledCount++;
        }
    }

    /** Whether every permutation is an element already, so that no product can bring a new entry. */
    private boolean isFull() {
        return filledCount >= n * (n - 1) / 2;
    }

    private void enterProduct(int slot, int otherSlot) {
        int[] chain = chains[count];
        if (slot / SLOTS <= otherSlot / SLOTS) {
            enter(compose(chain[slot], chain[otherSlot]));
        }
    }

    private void enter(int p) {
        int rest = residue(p);
        for (int level = 0; level < n; level++) {
            int x = image(rest, level);
            if (x != level) {
                chains[count][slotOf(level, x)] = rest;
                noteFilled(slotOf(level, x));
                return;
            }
        }
    }

    /** The k-th, in the order of permutations, of the products of an element and p. */
    private int inCoset(int p, int k) {
        int found = p;
        int before = k;
        for (int level = 0; level < n; level++) {
            int alike = fixersOfFirst(level + 1);
            int back = invert(found);
            for (int y = 0; y < n; y++) {
                int next = entry(level, image(back, y));
                if (next == NONE) {
                    continue;
                }
                if (before < alike) {
                    found = compose(next, found);
                    break;
                }
                before -= alike;
            }
        }
        return found;
    }

    private int elementsBefore(int p) {
        int before = 0;
        int found = identity;
        for (int level = 0; level < n; level++) {
            int wanted = image(p, level);
            before += entriesBelow(level, found, wanted) * fixersOfFirst(level + 1);
            found = compose(entry(level, image(invert(found), wanted)), found);
        }
        return before;
    }

    /** How many entries of the level, followed by found, give the level's point an image below the limit. */
    private int entriesBelow(int level, int found, int limit) {
        int result = 0;
        for (int x = level; x < n; x++) {
            if (entry(level, x) != NONE && image(found, x) < limit) {
                result++;
            }
        }
        return result;
    }
}
