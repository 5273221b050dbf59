/** Promise 9: drop. */
public final class Promise9DropTest {
    private static final Check check = new Check();

    public static void main(String[] args) {
        check.test("promise 9: the hand becomes empty, whatever it held", Promise9DropTest::everyHand);
        check.test("promise 9: an empty hand stays empty", Promise9DropTest::emptyHand);
        check.test("promise 9: a full hand becomes empty and can be filled again", Promise9DropTest::fullHand);
        check.test("promise 9: a path and steps are dropped, the log stays", Promise9DropTest::logStays);
        check.finish();
    }

    private static void everyHand() {
        for (int held = 0; held <= 16; held++) {
            MerkleLog log = Sample.logOf(9);
            Sample.fillHand(log, held);
            log.drop();
            check.due("dropped " + held + ": alter(0, 1)", log.alter(0, 1), -1);
            check.stands("dropped " + held, log, 9);
        }
    }

    private static void emptyHand() {
        MerkleLog log = new MerkleLog();
        log.drop();
        check.hand("new, dropped", log);
        log.drop();
        check.stands("new, dropped twice", log, 0);
    }

    private static void fullHand() {
        MerkleLog log = Sample.logOf(9);
        Sample.fillHand(log, 16);
        log.drop();
        for (int place = 0; place <= 16; place++) {
            check.due("full, dropped: hand(" + place + ")", log.hand(place), 0);
        }
        for (int number = 1; number <= 16; number++) {
            check.due("dropped: take(" + number + ")", log.take(number), number);
        }
        check.hand("dropped and filled", log, 1, 2, 3, 4, 5, 6, 7, 8, 9, 10, 11, 12, 13, 14, 15, 16);
    }

    private static void logStays() {
        for (int count : new int[] {1, 9, 40}) {
            MerkleLog log = Sample.logOf(count);
            log.path(0, count);
            log.drop();
            check.hand("path dropped", log);
            log.steps(1, count);
            log.drop();
            check.stands("steps dropped", log, count);
        }
    }
}
