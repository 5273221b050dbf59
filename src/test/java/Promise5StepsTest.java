/** Promise 5: steps, with the term STEPS. */
public final class Promise5StepsTest {
    private static final int[] POWERS = {1, 2, 4, 8, 16, 32};
    private static final Check check = new Check();

    public static void main(String[] args) {
        check.test("promise 5: every steps from every size to every size", Promise5StepsTest::everySteps);
        check.test("promise 5: if m = n, empty if b is true", Promise5StepsTest::sameSize);
        check.test("promise 5: if m = n, the root of the row if b is false", Promise5StepsTest::sameSizeInTheOthers);
        check.test("promise 5: small steps spelled out", Promise5StepsTest::smallSteps);
        check.test("promise 5: m <= k, up to m = k", Promise5StepsTest::wholeFirst);
        check.test("promise 5: else, from m = k + 1 on", Promise5StepsTest::oneIntoTheOthers);
        check.test("promise 5: b stays false below the others", Promise5StepsTest::staysFalse);
        check.test("promise 5: the longest steps have 7 numbers", Promise5StepsTest::longest);
        check.test("promise 5: the hand becomes the steps, however full it was", Promise5StepsTest::replacesTheHand);
        check.test("promise 5: from may be 1", Promise5StepsTest::fromOne);
        check.test("promise 5: to may be the number of entries", Promise5StepsTest::toTheEnd);
        check.test("promise 5: -1, and changes nothing, if not 1 <= from", Promise5StepsTest::fromTooSmall);
        check.test("promise 5: -1, and changes nothing, if not from <= to", Promise5StepsTest::fromPastTo);
        check.test("promise 5: -1, and changes nothing, if not to <= the number of entries",
            Promise5StepsTest::toTooLarge);
        check.test("promise 5: -1, and changes nothing, on an empty log", Promise5StepsTest::emptyLog);
        check.test("promise 5: a refused call leaves steps in the hand", Promise5StepsTest::refusalLeavesTheSteps);
        check.finish();
    }

    private static void everySteps() {
        for (int to = 1; to <= 40; to++) {
            for (int from = 1; from <= to; from++) {
                // A log that goes on past to must answer as if it ended there.
                for (int count : new int[] {to, 40}) {
                    stepsAre(count, from, to, Sample.wholeSteps(from, to));
                }
            }
        }
    }

    private static void stepsAre(int count, int from, int to, int... want) {
        MerkleLog log = Sample.logOf(count);
        Sample.fillHand(log, 2);
        String call = "with " + count + ": steps(" + from + ", " + to + ")";
        check.due(call, log.steps(from, to), want.length);
        check.stands(call, log, count, want);
    }

    private static void sameSize() {
        for (int held : Sample.HANDS) {
            for (int size = 1; size <= 40; size++) {
                MerkleLog log = Sample.logOf(40);
                Sample.fillHand(log, held);
                String call = "steps(" + size + ", " + size + ")";
                check.due(call, log.steps(size, size), 0);
                check.stands(call, log, 40);
            }
        }
    }

    /** From 6 to 7: of the others (4, 5, 6), the first two are had whole, but not from the row's start. */
    private static void sameSizeInTheOthers() {
        int whole = Sample.rootOf(4, 6);
        stepsAre(7, 6, 7, whole, Sample.leafOf(6), Sample.rootOf(0, 4));
        stepsAre(4, 3, 4, Sample.leafOf(2), Sample.leafOf(3), Sample.rootOf(0, 2));
    }

    private static void smallSteps() {
        int zero = Sample.leafOf(0);
        int one = Sample.leafOf(1);
        int two = Sample.leafOf(2);
        int three = Sample.leafOf(3);
        stepsAre(2, 1, 2, one);
        stepsAre(3, 1, 3, one, two);
        stepsAre(3, 2, 3, two);
        stepsAre(4, 1, 4, one, Model.node(two, three));
        stepsAre(4, 2, 4, Model.node(two, three));
        stepsAre(4, 3, 4, two, three, Model.node(zero, one));
    }

    private static void wholeFirst() {
        for (int k : POWERS) {
            for (int to = k + 1; to <= Math.min(2 * k, 40); to++) {
                stepsAre(40, k, to, Sample.rootOf(k, to));
            }
        }
    }

    /** One past k, and the others have that one alone or more; the root of the first k comes last. */
    private static void oneIntoTheOthers() {
        for (int k : POWERS) {
            for (int to = k + 2; to <= Math.min(2 * k, 40); to++) {
                MerkleLog log = Sample.logOf(40);
                String call = "steps(" + (k + 1) + ", " + to + ")";
                // The leaf of the one, what stands beside it up to the others' root, the first k.
                int length = 2 + Model.pathLength(0, to - k);
                check.due(call, log.steps(k + 1, to), length);
                check.due(call + ": first number", log.hand(0), Sample.leafOf(k));
                check.due(call + ": last number", log.hand(length - 1), Sample.rootOf(0, k));
            }
        }
    }

    /** From 5 to 8: in the others, the way goes on among the first ones, twice. */
    private static void staysFalse() {
        stepsAre(8, 5, 8, Sample.leafOf(4), Sample.leafOf(5), Sample.rootOf(6, 8), Sample.rootOf(0, 4));
        stepsAre(8, 6, 8, Sample.rootOf(4, 6), Sample.rootOf(6, 8), Sample.rootOf(0, 4));
        stepsAre(8, 7, 8, Sample.leafOf(6), Sample.leafOf(7), Sample.rootOf(4, 6), Sample.rootOf(0, 4));
        // Here the way never leaves the first ones, and b stays true.
        stepsAre(8, 1, 8, Sample.leafOf(1), Sample.rootOf(2, 4), Sample.rootOf(4, 8));
        stepsAre(8, 2, 8, Sample.rootOf(2, 4), Sample.rootOf(4, 8));
    }

    private static void longest() {
        for (int to = 33; to <= 40; to++) {
            check.due("steps(31, " + to + ")", Sample.logOf(40).steps(31, to), 7);
            check.due("steps(17, " + to + ")", Sample.logOf(40).steps(17, to), 7);
        }
    }

    private static void replacesTheHand() {
        MerkleLog log = Sample.logOf(33);
        Sample.fillHand(log, 16);
        check.due("full hand: steps(32, 33)", log.steps(32, 33), 1);
        check.hand("full hand: steps(32, 33)", log, Sample.wholeSteps(32, 33));
        Sample.fillHand(log, 16);
        check.due("full hand: steps(33, 33)", log.steps(33, 33), 0);
        check.hand("full hand: steps(33, 33)", log);
        check.due("empty hand: steps(31, 33)", log.steps(31, 33), 7);
        check.hand("empty hand: steps(31, 33)", log, Sample.wholeSteps(31, 33));
        check.due("again: steps(31, 33)", log.steps(31, 33), 7);
        check.stands("again: steps(31, 33)", log, 33, Sample.wholeSteps(31, 33));
    }

    private static void fromOne() {
        for (int to = 1; to <= 40; to++) {
            stepsAre(40, 1, to, Sample.wholeSteps(1, to));
        }
    }

    private static void toTheEnd() {
        for (int count = 1; count <= 40; count++) {
            stepsAre(count, count, count);
            stepsAre(count, 1, count, Sample.wholeSteps(1, count));
        }
    }

    private static void fromTooSmall() {
        for (int count : Sample.LOGS) {
            for (int held : Sample.HANDS) {
                for (int from : new int[] {0, -1, -40, Integer.MIN_VALUE}) {
                    stepsRefused(count, held, from, count);
                    stepsRefused(count, held, from, from);
                    stepsRefused(count, held, from, 1);
                }
            }
        }
        for (int to = 1; to <= 40; to++) {
            stepsRefused(40, 3, 0, to);
        }
    }

    private static void fromPastTo() {
        for (int held : Sample.HANDS) {
            for (int to = 0; to <= 39; to++) {
                stepsRefused(40, held, to + 1, to);
                stepsRefused(40, held, 40, to);
            }
            for (int to : new int[] {-1, -40, Integer.MIN_VALUE}) {
                stepsRefused(40, held, 1, to);
                stepsRefused(40, held, Integer.MAX_VALUE, to);
            }
            stepsRefused(40, held, 41, 40);
            stepsRefused(40, held, Integer.MAX_VALUE, 40);
        }
    }

    private static void toTooLarge() {
        for (int count : Sample.LOGS) {
            for (int held : Sample.HANDS) {
                for (int to : new int[] {count + 1, 41, 64, Integer.MAX_VALUE}) {
                    stepsRefused(count, held, 1, to);
                    stepsRefused(count, held, count, to);
                    stepsRefused(count, held, to, to);
                }
            }
        }
    }

    private static void emptyLog() {
        for (int held : Sample.HANDS) {
            stepsRefused(0, held, 0, 0);
            stepsRefused(0, held, 0, 1);
            stepsRefused(0, held, 1, 0);
            stepsRefused(0, held, 1, 1);
            for (int far : Sample.FAR_OFF) {
                stepsRefused(0, held, far, far);
            }
        }
    }

    private static void refusalLeavesTheSteps() {
        MerkleLog log = Sample.logOf(7);
        log.steps(3, 7);
        check.due("steps(0, 7)", log.steps(0, 7), -1);
        check.due("steps(7, 6)", log.steps(7, 6), -1);
        check.due("steps(3, 8)", log.steps(3, 8), -1);
        check.stands("after refused steps", log, 7, Sample.wholeSteps(3, 7));
    }

    private static void stepsRefused(int count, int held, int from, int to) {
        check.changesNothing("steps(" + from + ", " + to + ")", count, held, -1, log -> log.steps(from, to));
    }
}
