import java.util.function.ToIntFunction;

/** Runs the tests of one file, and counts and tells the answers that are not as due. */
final class Check {
    private String test = "";
    private int wrong = 0;
    private int seen = 0;
    private int tests = 0;

    /** Runs one test; what is not as due in it is told under its name. */
    void test(String name, Runnable body) {
        test = name;
        tests++;
        int before = seen;
        try {
            body.run();
        } catch (RuntimeException | StackOverflowError thrown) {
            tell("threw " + thrown);
        }
        // A test that looks at nothing could never fail.
        if (seen == before) {
            tell("looked at nothing");
        }
    }

    void due(String what, int got, int want) {
        seen++;
        if (got != want) {
            tell(what + " answered " + got + ", due is " + want);
        }
    }

    void holds(String what, boolean holds) {
        seen++;
        if (!holds) {
            tell(what + " does not hold");
        }
    }

    /** Looks at the whole hand: held(), every place, and the places just outside. */
    void hand(String what, MerkleLog log, int... want) {
        due(what + ": held()", log.held(), want.length);
        for (int place = 0; place < want.length; place++) {
            due(what + ": hand(" + place + ")", log.hand(place), want[place]);
        }
        due(what + ": hand(-1)", log.hand(-1), 0);
        due(what + ": hand(" + want.length + ")", log.hand(want.length), 0);
    }

    /** Looks at the whole log: it must hold the first count entries of Sample and no more. */
    void log(String what, MerkleLog log, int count) {
        Model model = Sample.modelOf(count);
        for (int size = 0; size <= count; size++) {
            due(what + ": root(" + size + ")", log.root(size), model.root(size));
        }
        due(what + ": root(" + (count + 1) + ")", log.root(count + 1), 0);
    }

    /** Looks at the log and at the hand, and then that both go on from there. */
    void stands(String what, MerkleLog log, int count, int... hand) {
        log(what, log, count);
        hand(what, log, hand);
        boolean logFull = count == 40;
        due(what + ": append", log.append(Sample.entry(count)), logFull ? -1 : count + 1);
        log(what + ", then append", log, logFull ? 40 : count + 1);
        boolean handFull = hand.length == 16;
        due(what + ": take", log.take(4321), handFull ? -1 : hand.length + 1);
        due(what + ", then take: hand", log.hand(hand.length), handFull ? 0 : 4321);
    }

    /**
     * Makes the call on a new log of count entries with held numbers in the hand: it must answer
     * as due and leave the log and the hand as they were.
     */
    void changesNothing(String call, int count, int held, int answer, ToIntFunction<MerkleLog> made) {
        MerkleLog log = Sample.logOf(count);
        Sample.fillHand(log, held);
        String what = "log of " + count + ", hand of " + held + ": " + call;
        due(what, made.applyAsInt(log), answer);
        stands("after " + what, log, count, Sample.filledHand(held));
    }

    void finish() {
        System.out.println(tests + " tests, " + seen + " answers looked at, " + wrong + " wrong");
        if (wrong != 0) {
            System.exit(1);
        }
    }

    private void tell(String what) {
        wrong++;
        System.out.println("[" + test + "] " + what);
    }
}
