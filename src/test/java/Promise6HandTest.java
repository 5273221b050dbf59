/** Promise 6: hand. */
public final class Promise6HandTest {
    private static final Check check = new Check();

    public static void main(String[] args) {
        check.test("promise 6: the number at the place, from 0", Promise6HandTest::everyPlace);
        check.test("promise 6: a number in the hand is any int", Promise6HandTest::anyInt);
        check.test("promise 6: 0 if there is none, in an empty hand", Promise6HandTest::emptyHand);
        check.test("promise 6: 0 if there is none, before the first place", Promise6HandTest::placeTooSmall);
        check.test("promise 6: 0 if there is none, after the last place", Promise6HandTest::placeTooLarge);
        check.test("promise 6: a full hand ends at place 15", Promise6HandTest::fullHand);
        check.test("promise 6: 0 where a longer hand had a number", Promise6HandTest::leftBehind);
        check.finish();
    }

    private static void everyPlace() {
        for (int held = 0; held <= 16; held++) {
            MerkleLog log = Sample.logOf(3);
            Sample.fillHand(log, held);
            for (int place = 0; place < held; place++) {
                check.due("of " + held + ": hand(" + place + ")", log.hand(place), 1000 + place);
            }
            check.stands("after looks", log, 3, Sample.filledHand(held));
        }
    }

    private static void anyInt() {
        MerkleLog log = new MerkleLog();
        for (int number : Sample.ANY_INTS) {
            log.take(number);
        }
        check.hand("any ints", log, Sample.ANY_INTS);
    }

    private static void emptyHand() {
        for (int place : new int[] {0, 1, 15, 16, -1, Integer.MIN_VALUE, Integer.MAX_VALUE}) {
            check.due("new: hand(" + place + ")", new MerkleLog().hand(place), 0);
            noneAt(0, place);
        }
    }

    private static void placeTooSmall() {
        for (int held = 0; held <= 16; held++) {
            for (int place : new int[] {-1, -2, -16, Integer.MIN_VALUE}) {
                noneAt(held, place);
            }
        }
    }

    private static void placeTooLarge() {
        for (int held = 0; held <= 16; held++) {
            for (int place = held; place <= 17; place++) {
                noneAt(held, place);
            }
            noneAt(held, Integer.MAX_VALUE);
        }
    }

    private static void fullHand() {
        MerkleLog log = Sample.logOf(3);
        Sample.fillHand(log, 16);
        check.due("full: hand(15)", log.hand(15), 1015);
        check.due("full: hand(16)", log.hand(16), 0);
    }

    private static void leftBehind() {
        MerkleLog byPath = Sample.logOf(3);
        Sample.fillHand(byPath, 16);
        byPath.path(2, 3);
        MerkleLog bySteps = Sample.logOf(3);
        Sample.fillHand(bySteps, 16);
        bySteps.steps(2, 3);
        MerkleLog byDrop = Sample.logOf(3);
        Sample.fillHand(byDrop, 16);
        byDrop.drop();
        byDrop.take(5);
        for (int place = 1; place <= 16; place++) {
            check.due("left behind by path: hand(" + place + ")", byPath.hand(place), 0);
            check.due("left behind by steps: hand(" + place + ")", bySteps.hand(place), 0);
            check.due("left behind by drop: hand(" + place + ")", byDrop.hand(place), 0);
        }
    }

    private static void noneAt(int held, int place) {
        check.changesNothing("hand(" + place + ")", 3, held, 0, log -> log.hand(place));
    }
}
