/** Promise 11: rootFrom. */
public final class Promise11RootFromTest {
    private static final Check check = new Check();

    public static void main(String[] args) {
        check.test("promise 11: a path leads to the root", Promise11RootFromTest::everyPath);
        check.test("promise 11: from the hand alone, whatever the log holds", Promise11RootFromTest::handAlone);
        check.test("promise 11: the walk begins with leaf(value)", Promise11RootFromTest::oneEntry);
        check.test("promise 11: node(r, h) where m < k, else node(h, r)", Promise11RootFromTest::smallWalks);
        check.test("promise 11: value is any int, and pressing wraps around", Promise11RootFromTest::pressingWraps);
        check.test("promise 11: size may be 1 and 40", Promise11RootFromTest::firstAndLastSize);
        check.test("promise 11: entry may be 0 and size - 1", Promise11RootFromTest::firstAndLastEntry);
        check.test("promise 11: a root can be 0 by itself", Promise11RootFromTest::rootThatIsZero);
        check.test("promise 11: 0 if size is less than 1", Promise11RootFromTest::sizeTooSmall);
        check.test("promise 11: 0 if size is more than 40", Promise11RootFromTest::sizeTooLarge);
        check.test("promise 11: 0 if entry is less than 0", Promise11RootFromTest::entryTooSmall);
        check.test("promise 11: 0 if entry is more than size - 1", Promise11RootFromTest::entryTooLarge);
        check.test("promise 11: 0 if the hand has fewer numbers than the path", Promise11RootFromTest::handTooShort);
        check.test("promise 11: 0 if the hand has more numbers than the path", Promise11RootFromTest::handTooLong);
        check.test("promise 11: the log and the hand stay", Promise11RootFromTest::changesNothing);
        check.finish();
    }

    private static void everyPath() {
        for (int size = 1; size <= 40; size++) {
            int root = Sample.modelOf(size).root(size);
            for (int entry = 0; entry < size; entry++) {
                MerkleLog log = Sample.logOf(40);
                log.path(entry, size);
                String call = "rootFrom(" + entry + ", " + size + ", entry)";
                check.due(call, log.rootFrom(entry, size, Sample.entry(entry)), root);
                check.hand("after " + call, log, Sample.wholePath(entry, size));
                int other = log.rootFrom(entry, size, Sample.entry(entry) + 1);
                check.holds(call + " with another value misses the root", other != root);
            }
        }
    }

    /** The hand is made up, and the log is empty, or shorter than size, or full. */
    private static void handAlone() {
        for (int size = 1; size <= 40; size++) {
            for (int entry = 0; entry < size; entry++) {
                int length = Model.pathLength(entry, size);
                Model model = new Model();
                for (int number : Sample.filledHand(length)) {
                    model.take(number);
                }
                int want = model.rootFrom(entry, size, -5);
                for (int count : new int[] {0, 2, 40}) {
                    answers(want, count, length, entry, size, -5);
                }
            }
        }
    }

    private static void answers(int want, int count, int held, int entry, int size, int value) {
        String call = "rootFrom(" + entry + ", " + size + ", " + value + ")";
        check.changesNothing(call, count, held, want, log -> log.rootFrom(entry, size, value));
    }

    private static void oneEntry() {
        for (int value : Sample.ANY_INTS) {
            for (int count : new int[] {0, 1, 40}) {
                answers(Model.leaf(value), count, 0, 0, 1, value);
            }
        }
    }

    /** The hand is 1000, 1001, ... */
    private static void smallWalks() {
        int r = Model.leaf(9);
        int firstOfTwo = Model.node(r, 1000);
        int secondOfTwo = Model.node(1000, r);
        answers(firstOfTwo, 0, 1, 0, 2, 9);
        answers(secondOfTwo, 0, 1, 1, 2, 9);
        answers(Model.node(firstOfTwo, 1001), 0, 2, 0, 3, 9);
        answers(Model.node(secondOfTwo, 1001), 0, 2, 1, 3, 9);
        answers(secondOfTwo, 0, 1, 2, 3, 9);
        answers(Model.node(1001, firstOfTwo), 0, 2, 2, 4, 9);
        answers(Model.node(1001, secondOfTwo), 0, 2, 3, 4, 9);
        answers(secondOfTwo, 0, 1, 4, 5, 9);
        answers(Model.node(1001, firstOfTwo), 0, 2, 4, 6, 9);
        answers(Model.node(1001, secondOfTwo), 0, 2, 6, 7, 9);
        answers(secondOfTwo, 0, 1, 32, 33, 9);
    }

    /**
     * Each number makes the one before "+ k" in the pressing the greatest int (then the sum wraps
     * to a negative one), or 2 short of it, or -1, in the first or in the second line. The answers
     * are from a program in another language, so that Model is not the only witness.
     */
    private static void pressingWraps() {
        firstOfTwoIs(-813975116, 1018962701);
        firstOfTwoIs(-799318161, -2147418110);
        firstOfTwoIs(1333442998, 1391787933);
        firstOfTwoIs(1514995136, 2);
        firstOfTwoIs(-2060482474, -372649069);
        firstOfTwoIs(1047070577, -2147418112);
        secondOfTwoIs(454419632, -781946547);
        secondOfTwoIs(1763698009, -1910675062);
        secondOfTwoIs(-1693129550, -1477262879);
        secondOfTwoIs(-217313282, -2023303109);
        firstOfTwoIs(0, 1180824936);
        firstOfTwoIs(1, 775317087);
        firstOfTwoIs(-1, -1026768752);
        firstOfTwoIs(Integer.MIN_VALUE, -1605902473);
        firstOfTwoIs(Integer.MAX_VALUE, 1663192351);
        secondOfTwoIs(0, 807808935);
        secondOfTwoIs(1, -133764295);
        secondOfTwoIs(-1, -102437263);
        secondOfTwoIs(Integer.MIN_VALUE, -926673981);
        secondOfTwoIs(Integer.MAX_VALUE, 193902606);
    }

    private static void firstOfTwoIs(int number, int want) {
        MerkleLog log = new MerkleLog();
        log.take(number);
        check.due("hand " + number + ": rootFrom(0, 2, 7)", log.rootFrom(0, 2, 7), want);
    }

    private static void secondOfTwoIs(int number, int want) {
        MerkleLog log = new MerkleLog();
        log.take(number);
        check.due("hand " + number + ": rootFrom(1, 2, 7)", log.rootFrom(1, 2, 7), want);
    }

    /** The log is empty throughout: size is bounded by 40 here, and not by the entries. */
    private static void firstAndLastSize() {
        answers(Model.leaf(9), 0, 0, 0, 1, 9);
        int r = Model.leaf(9);
        for (int number : Sample.filledHand(6)) {
            r = Model.node(r, number);
        }
        answers(r, 0, 6, 0, 40, 9);
    }

    private static void firstAndLastEntry() {
        for (int size = 2; size <= 40; size++) {
            for (int entry : new int[] {0, size - 1}) {
                MerkleLog log = Sample.logOf(size);
                log.path(entry, size);
                String call = "rootFrom(" + entry + ", " + size + ", entry)";
                check.due(call, log.rootFrom(entry, size, Sample.entry(entry)), Sample.rootOf(0, size));
            }
        }
    }

    private static void rootThatIsZero() {
        MerkleLog log = new MerkleLog();
        check.due("rootFrom(0, 1, 1475918010)", log.rootFrom(0, 1, 1475918010), 0);
        log.take(3);
        check.due("rootFrom(0, 2, 1475918010)", log.rootFrom(0, 2, 1475918010), Model.node(0, 3));
        firstOfTwoIs(-1482950124, 0);
    }

    private static void sizeTooSmall() {
        for (int held = 0; held <= 16; held++) {
            for (int size : new int[] {0, -1, -40, Integer.MIN_VALUE}) {
                answers(0, 40, held, 0, size, 9);
                answers(0, 40, held, size, size, 9);
                answers(0, 40, held, size - 1, size, 9);
            }
        }
    }

    private static void sizeTooLarge() {
        for (int held = 0; held <= 16; held++) {
            for (int size : new int[] {41, 42, 48, 64, 65, 1 << 16, Integer.MAX_VALUE}) {
                for (int count : new int[] {0, 40}) {
                    answers(0, count, held, 0, size, 9);
                    answers(0, count, held, 40, size, 9);
                    answers(0, count, held, size - 1, size, 9);
                }
            }
        }
    }

    private static void entryTooSmall() {
        for (int size = 1; size <= 40; size++) {
            for (int held = 0; held <= 16; held++) {
                answers(0, 6, held, -1, size, 9);
            }
            for (int entry : new int[] {-2, -40, Integer.MIN_VALUE}) {
                answers(0, 6, Model.pathLength(0, size), entry, size, 9);
            }
        }
    }

    private static void entryTooLarge() {
        for (int size = 1; size <= 40; size++) {
            for (int held = 0; held <= 16; held++) {
                answers(0, 40, held, size, size, 9);
            }
            for (int entry : new int[] {size + 1, 41, 64, Integer.MAX_VALUE}) {
                answers(0, 40, Model.pathLength(size - 1, size), entry, size, 9);
            }
        }
    }

    private static void handTooShort() {
        for (int size = 1; size <= 40; size++) {
            for (int entry = 0; entry < size; entry++) {
                for (int held = 0; held < Model.pathLength(entry, size); held++) {
                    answers(0, 40, held, entry, size, 9);
                }
            }
        }
    }

    private static void handTooLong() {
        for (int size = 1; size <= 40; size++) {
            for (int entry = 0; entry < size; entry++) {
                for (int held = Model.pathLength(entry, size) + 1; held <= 16; held++) {
                    answers(0, 2, held, entry, size, 9);
                }
            }
        }
    }

    private static void changesNothing() {
        MerkleLog log = Sample.logOf(7);
        log.path(3, 7);
        check.due("rootFrom(3, 7, entry)", log.rootFrom(3, 7, Sample.entry(3)), Sample.rootOf(0, 7));
        check.due("rootFrom(6, 7, entry)", log.rootFrom(6, 7, Sample.entry(6)), 0);
        check.stands("after rootFrom", log, 7, Sample.wholePath(3, 7));
    }
}
