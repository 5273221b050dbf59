/** Promise 8: alter. */
public final class Promise8AlterTest {
    private static final Check check = new Check();

    public static void main(String[] args) {
        check.test("promise 8: the number at the place becomes value, and no other", Promise8AlterTest::everyPlace);
        check.test("promise 8: the first and the last place of every hand", Promise8AlterTest::firstAndLast);
        check.test("promise 8: the log stays, and so does the next path", Promise8AlterTest::logStays);
        check.test("promise 8: -1, and changes nothing, in an empty hand", Promise8AlterTest::emptyHand);
        check.test("promise 8: -1, and changes nothing, before the first place", Promise8AlterTest::placeTooSmall);
        check.test("promise 8: -1, and changes nothing, after the last place", Promise8AlterTest::placeTooLarge);
        check.test("promise 8: a full hand ends at place 15", Promise8AlterTest::fullHand);
        check.test("promise 8: -1, and changes nothing, where a longer hand had a number",
            Promise8AlterTest::leftBehind);
        check.finish();
    }

    private static void everyPlace() {
        for (int place = 0; place < 16; place++) {
            for (int value : Sample.ANY_INTS) {
                altered(16, place, value);
            }
        }
    }

    private static void altered(int held, int place, int value) {
        MerkleLog log = Sample.logOf(4);
        Sample.fillHand(log, held);
        int[] want = Sample.filledHand(held);
        want[place] = value;
        String call = "of " + held + ": alter(" + place + ", " + value + ")";
        check.due(call, log.alter(place, value), 0);
        check.stands(call, log, 4, want);
    }

    private static void firstAndLast() {
        for (int held = 1; held <= 16; held++) {
            altered(held, 0, 5);
            altered(held, held - 1, 5);
        }
    }

    private static void logStays() {
        MerkleLog log = Sample.logOf(4);
        log.path(1, 4);
        check.due("alter(0, 5)", log.alter(0, 5), 0);
        check.due("alter(1, 6)", log.alter(1, 6), 0);
        check.due("alter(1, 7)", log.alter(1, 7), 0);
        check.hand("altered path", log, 5, 7);
        check.log("altered path", log, 4);
        log.path(1, 4);
        check.stands("path asked anew", log, 4, Sample.wholePath(1, 4));
    }

    private static void emptyHand() {
        check.due("new: alter(0, 5)", new MerkleLog().alter(0, 5), -1);
        for (int count : Sample.LOGS) {
            for (int place : new int[] {0, 1, 15, 16, -1, Integer.MIN_VALUE, Integer.MAX_VALUE}) {
                alterRefused(count, 0, place);
            }
        }
    }

    private static void placeTooSmall() {
        for (int held = 0; held <= 16; held++) {
            for (int place : new int[] {-1, -2, -16, Integer.MIN_VALUE}) {
                alterRefused(4, held, place);
            }
        }
    }

    private static void placeTooLarge() {
        for (int held = 0; held <= 16; held++) {
            for (int place = held; place <= 17; place++) {
                alterRefused(4, held, place);
            }
            alterRefused(4, held, Integer.MAX_VALUE);
        }
    }

    private static void fullHand() {
        altered(16, 15, 5);
        alterRefused(4, 16, 16);
    }

    private static void leftBehind() {
        for (int held = 0; held < 16; held++) {
            MerkleLog log = Sample.logOf(4);
            Sample.fillHand(log, 16);
            Sample.fillHand(log, held);
            check.due("of " + held + ", once 16: alter(" + held + ", 5)", log.alter(held, 5), -1);
            check.due("of " + held + ", once 16: alter(15, 5)", log.alter(15, 5), -1);
            check.stands("of " + held + ", once 16", log, 4, Sample.filledHand(held));
        }
    }

    private static void alterRefused(int count, int held, int place) {
        for (int value : new int[] {0, 5}) {
            check.changesNothing("alter(" + place + ", " + value + ")", count, held, -1, log -> log.alter(place, value));
        }
    }
}
