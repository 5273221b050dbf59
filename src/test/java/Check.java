/** Counts and tells the answers that are not as due. */
final class Check {
    private int wrong = 0;
    private int seen = 0;

    void due(String what, int got, int want) {
        seen++;
        if (got != want) {
            wrong++;
            System.out.println(what + " answered " + got + ", due is " + want);
        }
    }

    void holds(String what, boolean holds) {
        seen++;
        if (!holds) {
            wrong++;
            System.out.println(what + " does not hold");
        }
    }

    /** Looks at the whole hand: held(), every place, and the places just outside. */
    void hand(String what, MerkleLog log, int... want) {
        due(what + ": held()", log.held(), want.length);
        for (int place = 0; place < want.length; place++) {
            due(what + ": hand(" + place + ")", log.hand(place), want[place]);
        }
        due(what + ": hand(-1)", log.hand(-1), 0);
        due(what + ": hand(" + want.length + ")", log.hand(want.length), 0);
    }

    void finish() {
        System.out.println(seen + " answers looked at, " + wrong + " not as due");
        if (wrong != 0) {
            System.exit(1);
        }
    }
}
