/** Promise 7: held. */
public final class Promise7HeldTest {
    private static final Check check = new Check();

    public static void main(String[] args) {
        check.test("promise 7: the number of numbers, after each call", Promise7HeldTest::afterEachCall);
        check.test("promise 7: 0 for an empty hand", Promise7HeldTest::emptyHand);
        check.test("promise 7: 16 for a full hand", Promise7HeldTest::fullHand);
        check.test("promise 7: refused calls leave it", Promise7HeldTest::refusedCalls);
        check.test("promise 7: it changes nothing", Promise7HeldTest::changesNothing);
        check.finish();
    }

    private static void afterEachCall() {
        MerkleLog log = Sample.logOf(7);
        check.due("after appends: held()", log.held(), 0);
        log.path(3, 7);
        check.due("after path: held()", log.held(), 3);
        check.due("asked again: held()", log.held(), 3);
        log.steps(3, 7);
        check.due("after steps: held()", log.held(), 4);
        log.take(1);
        check.due("after take: held()", log.held(), 5);
        log.alter(4, 2);
        log.rootFrom(0, 1, 3);
        log.root(7);
        log.append(8);
        check.due("after calls that keep the hand: held()", log.held(), 5);
        log.drop();
        check.due("after drop: held()", log.held(), 0);
    }

    private static void emptyHand() {
        check.due("new: held()", new MerkleLog().held(), 0);
        MerkleLog log = Sample.logOf(40);
        check.due("with 40: held()", log.held(), 0);
        Sample.fillHand(log, 16);
        log.path(0, 1);
        check.due("after an empty path: held()", log.held(), 0);
        Sample.fillHand(log, 16);
        log.steps(40, 40);
        check.due("after empty steps: held()", log.held(), 0);
        Sample.fillHand(log, 16);
        log.drop();
        check.due("after drop: held()", log.held(), 0);
    }

    private static void fullHand() {
        MerkleLog log = new MerkleLog();
        for (int number = 1; number <= 16; number++) {
            log.take(0);
            check.due("after " + number + " takes: held()", log.held(), number);
        }
        log.take(0);
        check.due("after 17 takes: held()", log.held(), 16);
    }

    private static void refusedCalls() {
        for (int held : Sample.HANDS) {
            MerkleLog log = Sample.logOf(40);
            Sample.fillHand(log, held);
            log.append(1);
            check.due("after a refused append: held()", log.held(), held);
            log.path(40, 40);
            check.due("after a refused path: held()", log.held(), held);
            log.steps(0, 40);
            check.due("after refused steps: held()", log.held(), held);
            log.alter(held, 1);
            check.due("after a refused alter: held()", log.held(), held);
            log.rootFrom(0, 0, 1);
            check.due("after a refused rootFrom: held()", log.held(), held);
        }
    }

    private static void changesNothing() {
        for (int held : Sample.HANDS) {
            MerkleLog log = Sample.logOf(6);
            Sample.fillHand(log, held);
            check.due("held()", log.held(), held);
            check.stands("after held()", log, 6, Sample.filledHand(held));
        }
    }
}
