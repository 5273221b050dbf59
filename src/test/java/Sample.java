/** Logs and hands that the tests share. */
final class Sample {
    /** Ints that are too small or too large for every size, entry number and place. */
    static final int[] FAR_OFF = {
        Integer.MIN_VALUE, Integer.MIN_VALUE + 1, -40, -16, -2, -1, 41, 64, Integer.MAX_VALUE - 1, Integer.MAX_VALUE
    };
    static final int[] ANY_INTS = {0, 1, -1, Integer.MIN_VALUE, Integer.MAX_VALUE};
    /** Empty, neither, full. */
    static final int[] HANDS = {0, 3, 16};
    /** Empty, one entry, a power of 2, neither, one short of full, full. */
    static final int[] LOGS = {0, 1, 4, 6, 39, 40};

    private Sample() {
    }

    /** Entries far apart, with the ends of int among them. */
    static int entry(int number) {
        switch (number) {
            case 3: return Integer.MIN_VALUE;
            case 5: return Integer.MAX_VALUE;
            case 8: return 0;
            case 9: return -1;
            default: return (number + 1) * 0x9E3779B1;
        }
    }

    static MerkleLog logOf(int count) {
        return logOf(0, count);
    }

    /** A log of the entries from the number first to just before the number end. */
    static MerkleLog logOf(int first, int end) {
        MerkleLog log = new MerkleLog();
        for (int number = first; number < end; number++) {
            log.append(entry(number));
        }
        return log;
    }

    static Model modelOf(int count) {
        Model model = new Model();
        for (int number = 0; number < count; number++) {
            model.append(entry(number));
        }
        return model;
    }

    /** The root of the entries from first to just before end, as a log of their own has it. */
    static int rootOf(int first, int end) {
        return logOf(first, end).root(end - first);
    }

    static int leafOf(int number) {
        return Model.leaf(entry(number));
    }

    static void fillHand(MerkleLog log, int count) {
        log.drop();
        for (int number : filledHand(count)) {
            log.take(number);
        }
    }

    static int[] filledHand(int count) {
        int[] numbers = new int[count];
        for (int place = 0; place < count; place++) {
            numbers[place] = 1000 + place;
        }
        return numbers;
    }

    static int[] wholePath(int entry, int size) {
        Model model = modelOf(size);
        model.path(entry, size);
        return model.wholeHand();
    }

    static int[] wholeSteps(int from, int to) {
        Model model = modelOf(to);
        model.steps(from, to);
        return model.wholeHand();
    }
}
