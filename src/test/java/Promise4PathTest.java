/** Promise 4: path, with the term PATHS. */
public final class Promise4PathTest {
    private static final int[] POWERS = {1, 2, 4, 8, 16, 32};
    private static final Check check = new Check();

    public static void main(String[] args) {
        check.test("promise 4: every path in every size", Promise4PathTest::everyPath);
        check.test("promise 4: the path is empty if n is 1", Promise4PathTest::oneEntry);
        check.test("promise 4: small paths spelled out", Promise4PathTest::smallPaths);
        check.test("promise 4: m < k, up to m = k - 1", Promise4PathTest::lastOfTheFirst);
        check.test("promise 4: else, from m = k on", Promise4PathTest::firstOfTheOthers);
        check.test("promise 4: the longest path has 6 numbers", Promise4PathTest::longest);
        check.test("promise 4: the hand becomes the path, however full it was", Promise4PathTest::replacesTheHand);
        check.test("promise 4: size may be the number of entries", Promise4PathTest::wholeLog);
        check.test("promise 4: entry may be size - 1", Promise4PathTest::lastEntry);
        check.test("promise 4: -1, and changes nothing, if size is less than 1", Promise4PathTest::sizeTooSmall);
        check.test("promise 4: -1, and changes nothing, if size is more than the number of entries",
            Promise4PathTest::sizeTooLarge);
        check.test("promise 4: -1, and changes nothing, if entry is less than 0", Promise4PathTest::entryTooSmall);
        check.test("promise 4: -1, and changes nothing, if entry is more than size - 1",
            Promise4PathTest::entryTooLarge);
        check.test("promise 4: -1, and changes nothing, on an empty log", Promise4PathTest::emptyLog);
        check.test("promise 4: a refused call leaves a path in the hand", Promise4PathTest::refusalLeavesThePath);
        check.finish();
    }

    private static void everyPath() {
        for (int size = 1; size <= 40; size++) {
            for (int entry = 0; entry < size; entry++) {
                // A log that goes on past size must answer as if it ended there.
                for (int count : new int[] {size, 40}) {
                    pathIs(count, entry, size, Sample.wholePath(entry, size));
                }
            }
        }
    }

    private static void pathIs(int count, int entry, int size, int... want) {
        MerkleLog log = Sample.logOf(count);
        Sample.fillHand(log, 2);
        String call = "with " + count + ": path(" + entry + ", " + size + ")";
        check.due(call, log.path(entry, size), want.length);
        check.stands(call, log, count, want);
    }

    private static void oneEntry() {
        for (int count : new int[] {1, 2, 40}) {
            for (int held : Sample.HANDS) {
                MerkleLog log = Sample.logOf(count);
                Sample.fillHand(log, held);
                check.due("path(0, 1)", log.path(0, 1), 0);
                check.stands("path(0, 1)", log, count);
            }
        }
    }

    private static void smallPaths() {
        int zero = Sample.leafOf(0);
        int one = Sample.leafOf(1);
        int two = Sample.leafOf(2);
        pathIs(2, 0, 2, one);
        pathIs(2, 1, 2, zero);
        pathIs(3, 0, 3, one, two);
        pathIs(3, 1, 3, zero, two);
        pathIs(3, 2, 3, Model.node(zero, one));
    }

    /** In every row with that k, the path ends with the root of the others. */
    private static void lastOfTheFirst() {
        for (int k : POWERS) {
            for (int size = k + 1; size <= Math.min(2 * k, 40); size++) {
                int length = 1 + Integer.numberOfTrailingZeros(k);
                MerkleLog log = Sample.logOf(40);
                check.due("path(" + (k - 1) + ", " + size + ")", log.path(k - 1, size), length);
                check.due("its last number", log.hand(length - 1), Sample.rootOf(k, size));
            }
        }
    }

    /** In every row with that k, the path ends with the root of the first k. */
    private static void firstOfTheOthers() {
        for (int k : POWERS) {
            for (int size = k + 1; size <= Math.min(2 * k, 40); size++) {
                int length = 1 + Model.pathLength(0, size - k);
                MerkleLog log = Sample.logOf(40);
                check.due("path(" + k + ", " + size + ")", log.path(k, size), length);
                check.due("its last number", log.hand(length - 1), Sample.rootOf(0, k));
            }
        }
    }

    private static void longest() {
        for (int entry : new int[] {0, 31}) {
            for (int size = 33; size <= 40; size++) {
                check.due("path(" + entry + ", " + size + ")", Sample.logOf(40).path(entry, size), 6);
            }
        }
        check.due("path(32, 33)", Sample.logOf(40).path(32, 33), 1);
    }

    private static void replacesTheHand() {
        MerkleLog log = Sample.logOf(33);
        Sample.fillHand(log, 16);
        check.due("full hand: path(32, 33)", log.path(32, 33), 1);
        check.hand("full hand: path(32, 33)", log, Sample.wholePath(32, 33));
        Sample.fillHand(log, 16);
        check.due("full hand: path(0, 1)", log.path(0, 1), 0);
        check.hand("full hand: path(0, 1)", log);
        check.due("empty hand: path(0, 33)", log.path(0, 33), 6);
        check.hand("empty hand: path(0, 33)", log, Sample.wholePath(0, 33));
        check.due("again: path(0, 33)", log.path(0, 33), 6);
        check.stands("again: path(0, 33)", log, 33, Sample.wholePath(0, 33));
    }

    private static void wholeLog() {
        for (int count = 1; count <= 40; count++) {
            pathIs(count, 0, count, Sample.wholePath(0, count));
        }
    }

    private static void lastEntry() {
        for (int size = 1; size <= 40; size++) {
            pathIs(size, size - 1, size, Sample.wholePath(size - 1, size));
        }
    }

    private static void sizeTooSmall() {
        for (int count : Sample.LOGS) {
            for (int held : Sample.HANDS) {
                for (int size : new int[] {0, -1, -40, Integer.MIN_VALUE}) {
                    pathRefused(count, held, 0, size);
                }
            }
        }
    }

    private static void sizeTooLarge() {
        for (int count : Sample.LOGS) {
            for (int held : Sample.HANDS) {
                for (int size : new int[] {count + 1, 41, 64, Integer.MAX_VALUE}) {
                    pathRefused(count, held, 0, size);
                    pathRefused(count, held, size - 1, size);
                }
            }
        }
    }

    private static void entryTooSmall() {
        for (int held : Sample.HANDS) {
            for (int size = 1; size <= 40; size++) {
                pathRefused(40, held, -1, size);
            }
            for (int entry : new int[] {-2, -40, Integer.MIN_VALUE}) {
                pathRefused(6, held, entry, 6);
            }
        }
    }

    private static void entryTooLarge() {
        for (int held : Sample.HANDS) {
            for (int size = 1; size <= 40; size++) {
                pathRefused(size, held, size, size);
                // The log has that entry, but not among the first size ones.
                pathRefused(40, held, size, size);
            }
            for (int entry : new int[] {7, 39, 40, Integer.MAX_VALUE}) {
                pathRefused(40, held, entry, 6);
            }
        }
    }

    private static void emptyLog() {
        for (int held : Sample.HANDS) {
            pathRefused(0, held, 0, 0);
            pathRefused(0, held, -1, 0);
            pathRefused(0, held, 0, 1);
            for (int far : Sample.FAR_OFF) {
                pathRefused(0, held, far, far);
            }
        }
    }

    private static void refusalLeavesThePath() {
        MerkleLog log = Sample.logOf(7);
        log.path(3, 7);
        check.due("path(7, 7)", log.path(7, 7), -1);
        check.due("path(0, 8)", log.path(0, 8), -1);
        check.due("path(-1, 7)", log.path(-1, 7), -1);
        check.due("path(0, 0)", log.path(0, 0), -1);
        check.stands("after refused paths", log, 7, Sample.wholePath(3, 7));
    }

    private static void pathRefused(int count, int held, int entry, int size) {
        check.changesNothing("path(" + entry + ", " + size + ")", count, held, -1, log -> log.path(entry, size));
    }
}
