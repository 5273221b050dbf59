public final class MerkleLog {
    private static final int MOST_ENTRIES = 40;
    private static final int MOST_HELD = 16;
    // A row of 40 entries comes down to a single one in at most 6 splits (at 32, 16, 8, 4, 2, 1).
    private static final int MOST_SPLITS = 6;

    private final int[] entries = new int[MOST_ENTRIES];
    private int entryCount = 0;
    private final int[] handNumbers = new int[MOST_HELD];
    private int handCount = 0;
    // Only rowRoot uses it; it is a field because methods may not make arrays.
    private final int[] level = new int[MOST_ENTRIES];

    public MerkleLog() {
    }

    public int append(int entry) {
        if (entryCount >= MOST_ENTRIES) {
            return -1;
        }
        entries[entryCount] = entry;
        entryCount++;
        return entryCount;
    }

    public int root(int size) {
        if (size < 1 || size > entryCount) {
            return 0;
        }
        return rowRoot(0, size);
    }

    public int path(int entry, int size) {
        if (size < 1 || size > entryCount || entry < 0 || entry >= size) {
            return -1;
        }
        handCount = 0;
        int start = 0;
        int end = size;
        for (int splits = 0; splits < MOST_SPLITS && end - start > 1; splits++) {
            int middle = middleOf(start, end);
            if (entry < middle) {
                holdRoot(middle, end);
                end = middle;
            } else {
                holdRoot(start, middle);
                start = middle;
            }
        }
        turnHand();
        return handCount;
    }

    public int steps(int from, int to) {
        if (from < 1 || from > to || to > entryCount) {
            return -1;
        }
        handCount = 0;
        int start = 0;
        int end = to;
        for (int splits = 0; splits < MOST_SPLITS && from < end; splits++) {
            int middle = middleOf(start, end);
            if (from <= middle) {
                holdRoot(middle, end);
                end = middle;
            } else {
                holdRoot(start, middle);
                start = middle;
            }
        }
        // The document's b is false once the way has left the first entries of a row,
        // and from then on the row at hand no longer starts at 0.
        if (start > 0) {
            holdRoot(start, end);
        }
        turnHand();
        return handCount;
    }

    public int hand(int place) {
        if (place < 0 || place >= handCount) {
            return 0;
        }
        return handNumbers[place];
    }

    public int held() {
        return handCount;
    }

    public int alter(int place, int value) {
        if (place < 0 || place >= handCount) {
            return -1;
        }
        handNumbers[place] = value;
        return 0;
    }

    public void drop() {
        handCount = 0;
    }

    public int take(int value) {
        if (handCount >= MOST_HELD) {
            return -1;
        }
        handNumbers[handCount] = value;
        handCount++;
        return handCount;
    }

    public int rootFrom(int entry, int size, int value) {
        if (size < 1 || size > MOST_ENTRIES || entry < 0 || entry >= size) {
            return 0;
        }
        int way = wayUp(entry, size);
        // Past the turns of a path of the right length, only the leading 1 is left.
        if (way >>> handCount != 1) {
            return 0;
        }
        int r = leaf(value);
        for (int place = 0; place < handCount; place++) {
            int h = handNumbers[place];
            boolean inOthers = (way >>> place & 1) == 1;
            r = inOthers ? node(h, r) : node(r, h);
        }
        return r;
    }

    // The turns from the entry up to the whole row, the lowest bit being the first one up:
    // 0 where the entry is among the first k, 1 where it is among the others. A leading 1
    // above them tells how many there are.
    private static int wayUp(int entry, int size) {
        int way = 1;
        int start = 0;
        int end = size;
        for (int splits = 0; splits < MOST_SPLITS && end - start > 1; splits++) {
            int middle = middleOf(start, end);
            if (entry < middle) {
                way = way * 2;
                end = middle;
            } else {
                way = way * 2 + 1;
                start = middle;
            }
        }
        return way;
    }

    // Where the row from start to just before end is split: k entries after start.
    private static int middleOf(int start, int end) {
        int k = 1;
        for (int doublings = 0; doublings < MOST_SPLITS && k * 2 < end - start; doublings++) {
            k = k * 2;
        }
        return start + k;
    }

    // Pairing neighbours level by level, with an odd last number going up as it is, builds
    // the same tree as splitting at the greatest power of 2, and needs no recursion.
    private int rowRoot(int start, int end) {
        int width = end - start;
        for (int i = 0; i < width; i++) {
            level[i] = leaf(entries[start + i]);
        }
        for (int rounds = 0; rounds < MOST_SPLITS && width > 1; rounds++) {
            int pairs = width / 2;
            for (int i = 0; i < pairs; i++) {
                level[i] = node(level[2 * i], level[2 * i + 1]);
            }
            if (width % 2 == 1) {
                level[pairs] = level[width - 1];
            }
            width = width - pairs;
        }
        return level[0];
    }

    private void holdRoot(int start, int end) {
        int number = rowRoot(start, end);
        take(number);
    }

    // Paths and steps are told from the deepest row up, but are found from the whole row down.
    private void turnHand() {
        for (int i = 0; i < handCount / 2; i++) {
            int mirror = handCount - 1 - i;
            int number = handNumbers[i];
            handNumbers[i] = handNumbers[mirror];
            handNumbers[mirror] = number;
        }
    }

    private static int leaf(int x) {
        return mix(x, 1);
    }

    private static int node(int a, int b) {
        int mixed = mix(a, 2);
        return mix(mixed ^ b, 3);
    }

    private static int mix(int x, int k) {
        int once = (x ^ (x >>> 15)) * 739982445 + k;
        int twice = (once ^ (once >>> 12)) * 695872825 + k;
        return twice ^ (twice >>> 15);
    }
}
