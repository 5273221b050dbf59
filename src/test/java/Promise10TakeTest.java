import java.util.Arrays;

/** Promise 10: take, with the term THE HAND. */
public final class Promise10TakeTest {
    private static final int[] VALUES = {
        0, -1, Integer.MIN_VALUE, Integer.MAX_VALUE, 5, 5, 6, 7, 8, 9, 10, 11, 12, 13, 14, 15
    };
    private static final Check check = new Check();

    public static void main(String[] args) {
        check.test("promise 10: puts value at the end, answers how many then", Promise10TakeTest::everyLength);
        check.test("promise 10: onto an empty hand", Promise10TakeTest::emptyHand);
        check.test("promise 10: onto a path or steps", Promise10TakeTest::ontoAPath);
        check.test("promise 10: the 16th number is still taken", Promise10TakeTest::sixteenth);
        check.test("promise 10: -1, and changes nothing, if it has 16", Promise10TakeTest::seventeenth);
        check.test("promise 10: a full hand stays full until it is dropped", Promise10TakeTest::staysFull);
        check.finish();
    }

    private static void everyLength() {
        for (int length = 1; length <= 16; length++) {
            MerkleLog log = Sample.logOf(3);
            for (int place = 0; place < length; place++) {
                check.due("take(" + VALUES[place] + ")", log.take(VALUES[place]), place + 1);
            }
            check.stands("after " + length + " takes", log, 3, Arrays.copyOf(VALUES, length));
        }
    }

    private static void emptyHand() {
        for (int value : Sample.ANY_INTS) {
            MerkleLog log = new MerkleLog();
            check.due("new: take(" + value + ")", log.take(value), 1);
            check.stands("new: take(" + value + ")", log, 0, value);
        }
    }

    private static void ontoAPath() {
        MerkleLog log = Sample.logOf(3);
        log.path(2, 3);
        check.due("on a path: take(9)", log.take(9), 2);
        check.hand("on a path: take(9)", log, Sample.rootOf(0, 2), 9);
        log.steps(2, 3);
        check.due("on steps: take(9)", log.take(9), 2);
        check.stands("on steps: take(9)", log, 3, Sample.leafOf(2), 9);
    }

    private static void sixteenth() {
        for (int count : Sample.LOGS) {
            MerkleLog log = Sample.logOf(count);
            Sample.fillHand(log, 15);
            check.due("with 15: take(1015)", log.take(1015), 16);
            check.stands("with 15: take(1015)", log, count, Sample.filledHand(16));
        }
    }

    private static void seventeenth() {
        for (int count : Sample.LOGS) {
            for (int value : new int[] {0, -1, 1015, Integer.MIN_VALUE, Integer.MAX_VALUE}) {
                check.changesNothing("take(" + value + ")", count, 16, -1, log -> log.take(value));
            }
        }
    }

    private static void staysFull() {
        MerkleLog log = Sample.logOf(3);
        Sample.fillHand(log, 16);
        for (int times = 0; times < 100; times++) {
            check.due("full: take(" + times + ")", log.take(times), -1);
        }
        check.hand("full", log, Sample.filledHand(16));
        log.drop();
        check.due("dropped: take(7)", log.take(7), 1);
        check.stands("dropped: take(7)", log, 3, 7);
    }
}
