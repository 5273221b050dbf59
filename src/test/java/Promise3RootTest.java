/** Promise 3: root, with the terms PRESSING and ROOT. */
public final class Promise3RootTest {
    private static final Check check = new Check();

    public static void main(String[] args) {
        check.test("promise 3: the root of the first size entries", Promise3RootTest::everySize);
        check.test("promise 3: the root of one entry is its leaf", Promise3RootTest::oneEntry);
        check.test("promise 3: small rows spelled out", Promise3RootTest::smallRows);
        check.test("promise 3: k is the greatest power of 2 that is less than n", Promise3RootTest::everySplit);
        check.test("promise 3: 0 for size 0", Promise3RootTest::sizeZero);
        check.test("promise 3: size may be the number of entries", Promise3RootTest::wholeLog);
        check.test("promise 3: 0 if size is less than 0", Promise3RootTest::sizeTooSmall);
        check.test("promise 3: 0 if size is more than the number of entries", Promise3RootTest::sizeTooLarge);
        check.test("promise 3: pressing wraps around", Promise3RootTest::pressingWraps);
        check.test("promise 3: a root can be 0 by itself", Promise3RootTest::rootThatIsZero);
        check.test("promise 3: known numbers", Promise3RootTest::knownNumbers);
        check.finish();
    }

    private static void everySize() {
        for (int count = 0; count <= 40; count++) {
            MerkleLog log = Sample.logOf(count);
            Model model = Sample.modelOf(count);
            Sample.fillHand(log, 2);
            for (int size = 0; size <= count; size++) {
                check.due("with " + count + ": root(" + size + ")", log.root(size), model.root(size));
            }
            check.stands("after roots", log, count, Sample.filledHand(2));
        }
    }

    private static void oneEntry() {
        for (int number = 0; number < 40; number++) {
            MerkleLog log = Sample.logOf(number, number + 1);
            check.due("entry " + number + " alone: root(1)", log.root(1), Sample.leafOf(number));
        }
    }

    private static void smallRows() {
        MerkleLog log = Sample.logOf(5);
        int first = Sample.leafOf(0);
        int two = Model.node(first, Sample.leafOf(1));
        int four = Model.node(two, Model.node(Sample.leafOf(2), Sample.leafOf(3)));
        check.due("root(1)", log.root(1), first);
        check.due("root(2)", log.root(2), two);
        check.due("root(3)", log.root(3), Model.node(two, Sample.leafOf(2)));
        check.due("root(4)", log.root(4), four);
        check.due("root(5)", log.root(5), Model.node(four, Sample.leafOf(4)));
    }

    /** The rows of 2, 4, 8, 16 and 32 are split in the middle, and those of one more at their last entry. */
    private static void everySplit() {
        MerkleLog log = Sample.logOf(40);
        for (int n = 2; n <= 40; n++) {
            int k = n <= 2 ? 1 : n <= 4 ? 2 : n <= 8 ? 4 : n <= 16 ? 8 : n <= 32 ? 16 : 32;
            int want = Model.node(Sample.rootOf(0, k), Sample.rootOf(k, n));
            check.due("root(" + n + "), split at " + k, log.root(n), want);
        }
    }

    private static void sizeZero() {
        for (int count : Sample.LOGS) {
            for (int held : Sample.HANDS) {
                check.changesNothing("root(0)", count, held, 0, log -> log.root(0));
            }
        }
    }

    private static void wholeLog() {
        for (int count = 1; count <= 40; count++) {
            int want = Sample.modelOf(count).root(count);
            check.due("with " + count + ": root(" + count + ")", Sample.logOf(count).root(count), want);
        }
    }

    private static void sizeTooSmall() {
        for (int count : Sample.LOGS) {
            for (int size : new int[] {-1, -2, -40, Integer.MIN_VALUE}) {
                check.changesNothing("root(" + size + ")", count, 3, 0, log -> log.root(size));
            }
        }
    }

    private static void sizeTooLarge() {
        for (int count = 0; count <= 40; count++) {
            MerkleLog log = Sample.logOf(count);
            for (int size = count + 1; size <= 70; size++) {
                check.due("with " + count + ": root(" + size + ")", log.root(size), 0);
            }
            check.stands("after sizes too large", log, count);
        }
        for (int count : Sample.LOGS) {
            for (int size : new int[] {count + 1, count + 40, Integer.MAX_VALUE}) {
                check.changesNothing("root(" + size + ")", count, 3, 0, log -> log.root(size));
            }
        }
    }

    /**
     * Each entry makes the number before "+ k" in the pressing the greatest int (then the sum
     * wraps to the least one) or -1, in the first or in the second line. The answers are from a
     * program in another language, so that Model is not the only witness.
     */
    private static void pressingWraps() {
        leafIs(454419632, -372649071);
        leafIs(-838272806, -2147418112);
        leafIs(-1693129550, 1);
        leafIs(1475918010, 0);
        leafIs(0, 695893966);
        leafIs(1, -1011165120);
        leafIs(-1, 1319901635);
        leafIs(Integer.MIN_VALUE, 1013938516);
        leafIs(Integer.MAX_VALUE, -1139662644);
    }

    private static void leafIs(int entry, int want) {
        MerkleLog log = new MerkleLog();
        log.append(entry);
        check.due("of " + entry + " alone: root(1)", log.root(1), want);
    }

    /** The leaf of 1475918010 is 0: that is its root, and no refusal. */
    private static void rootThatIsZero() {
        MerkleLog log = new MerkleLog();
        check.due("append(1475918010)", log.append(1475918010), 1);
        check.due("append(5)", log.append(5), 2);
        check.due("root(1)", log.root(1), 0);
        check.due("root(2)", log.root(2), Model.node(0, Model.leaf(5)));
        check.due("path(0, 1)", log.path(0, 1), 0);
        check.due("path(1, 2)", log.path(1, 2), 1);
        check.hand("path(1, 2)", log, 0);
    }

    private static void knownNumbers() {
        MerkleLog log = new MerkleLog();
        for (int entry : new int[] {Integer.MIN_VALUE, Integer.MAX_VALUE, -1, 0, 1}) {
            log.append(entry);
        }
        check.due("known: root(1)", log.root(1), 1013938516);
        check.due("known: root(2)", log.root(2), 1985833247);
        check.due("known: root(3)", log.root(3), 908191711);
        check.due("known: root(4)", log.root(4), -133034685);
        check.due("known: root(5)", log.root(5), -708629643);
    }
}
