/**
 * Long runs of mixed calls, each answer held against Model. The calls are drawn by a fixed
 * rule, so every run of the test makes the same ones.
 */
public final class LongRunsTest {
    private static final int RUNS = 2000;
    private static final int CALLS = 512;
    private static final Check check = new Check();

    private long drawn;
    private final MerkleLog log = new MerkleLog();
    private final Model model = new Model();

    private LongRunsTest(int seed) {
        drawn = seed;
    }

    public static void main(String[] args) {
        check.test("promises 1 to 11: long mixed runs", LongRunsTest::everyRun);
        check.finish();
    }

    private static void everyRun() {
        for (int run = 0; run < RUNS; run++) {
            LongRunsTest one = new LongRunsTest(run);
            // Appends that are rare in some runs keep the log small there for long.
            int appendWeight = 1 + run % 8;
            for (int call = 0; call < CALLS; call++) {
                one.call("run " + run + ", call " + call + ": ", appendWeight);
            }
        }
    }

    private int draw() {
        drawn = drawn * 6364136223846793005L + 1442695040888963407L;
        return (int) (drawn >>> 32);
    }

    private int below(int bound) {
        return (draw() >>> 1) % bound;
    }

    /** Mostly from -1 to 42, now and then any int. */
    private int number() {
        return below(20) == 0 ? draw() : below(44) - 1;
    }

    private void call(String at, int appendWeight) {
        int kind = below(20 + appendWeight);
        if (kind >= 20) {
            int entry = draw();
            check.due(at + "append(" + entry + ")", log.append(entry), model.append(entry));
        } else if (kind >= 17) {
            int size = number();
            check.due(at + "root(" + size + ")", log.root(size), model.root(size));
        } else if (kind >= 14) {
            int entry = number();
            int size = number();
            check.due(at + "path(" + entry + ", " + size + ")", log.path(entry, size), model.path(entry, size));
        } else if (kind >= 11) {
            int from = number();
            int to = number();
            check.due(at + "steps(" + from + ", " + to + ")", log.steps(from, to), model.steps(from, to));
        } else if (kind >= 6) {
            callRootFrom(at);
        } else {
            callOnHand(at, kind);
        }
    }

    private void callOnHand(String at, int kind) {
        int place = below(10) == 0 ? draw() : below(18) - 1;
        int value = draw();
        switch (kind) {
            case 0:
                check.due(at + "held()", log.held(), model.held());
                break;
            case 1:
                check.due(at + "alter(" + place + ", " + value + ")", log.alter(place, value), model.alter(place, value));
                break;
            case 2:
                // Dropping less often lets the hand get full.
                if (below(6) == 0) {
                    log.drop();
                    model.drop();
                }
                break;
            case 3:
                check.due(at + "hand(" + place + ")", log.hand(place), model.hand(place));
                break;
            default:
                check.due(at + "take(" + value + ")", log.take(value), model.take(value));
                break;
        }
    }

    private void callRootFrom(String at) {
        int entry = number();
        int size = number();
        int value = draw();
        String call = at + "rootFrom(" + entry + ", " + size + ", " + value + ")";
        check.due(call, log.rootFrom(entry, size, value), model.rootFrom(entry, size, value));
    }
}
