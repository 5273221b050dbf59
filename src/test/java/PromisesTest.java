/**
 * Each promise by itself: ordinary inputs, the edges that the document names, wrong inputs.
 * No object gets more than the 512 calls that the document allows.
 */
public final class PromisesTest {
    private static final int[] FAR_OFF = {
        Integer.MIN_VALUE, Integer.MIN_VALUE + 1, -40, -16, -2, -1, 41, 64, Integer.MAX_VALUE - 1, Integer.MAX_VALUE
    };
    private static final Check check = new Check();

    public static void main(String[] args) {
        promise1NewObject();
        promise1ObjectsShareNothing();
        promise2Append();
        promise2FullLog();
        promise3Root();
        promise3KnownNumbers();
        promise3WrongSizes();
        promise4EveryPath();
        promise4WrongInputs();
        promise4ReplacesAFullHand();
        promise5EverySteps();
        promise5WrongInputs();
        promise5ReplacesAFullHand();
        promise6Hand();
        promise7Held();
        promise8Alter();
        promise8WrongPlaces();
        promise9Drop();
        promise10Take();
        promise11EveryPathLeadsToTheRoot();
        promise11HandAlone();
        promise11WrongLengths();
        promise11WrongInputs();
        check.finish();
    }

    /** Entries far apart, with the ends of int among them. */
    private static int entry(int number) {
        switch (number) {
            case 3: return Integer.MIN_VALUE;
            case 5: return Integer.MAX_VALUE;
            case 8: return 0;
            case 9: return -1;
            default: return (number + 1) * 0x9E3779B1;
        }
    }

    private static MerkleLog logOf(int size) {
        MerkleLog log = new MerkleLog();
        for (int number = 0; number < size; number++) {
            log.append(entry(number));
        }
        return log;
    }

    private static Model modelOf(int size) {
        Model model = new Model();
        for (int number = 0; number < size; number++) {
            model.append(entry(number));
        }
        return model;
    }

    private static void fillHand(MerkleLog log, int count) {
        log.drop();
        for (int place = 0; place < count; place++) {
            log.take(1000 + place);
        }
    }

    private static int[] filledHand(int count) {
        int[] numbers = new int[count];
        for (int place = 0; place < count; place++) {
            numbers[place] = 1000 + place;
        }
        return numbers;
    }

    private static void promise1NewObject() {
        check.hand("new", new MerkleLog());
        check.due("new: root(0)", new MerkleLog().root(0), 0);
        check.due("new: root(1)", new MerkleLog().root(1), 0);
        check.due("new: path(0, 0)", new MerkleLog().path(0, 0), -1);
        check.due("new: path(0, 1)", new MerkleLog().path(0, 1), -1);
        check.due("new: steps(0, 0)", new MerkleLog().steps(0, 0), -1);
        check.due("new: steps(1, 1)", new MerkleLog().steps(1, 1), -1);
        check.due("new: alter(0, 7)", new MerkleLog().alter(0, 7), -1);
        check.due("new: take(7)", new MerkleLog().take(7), 1);
        check.due("new: append(7)", new MerkleLog().append(7), 1);
        check.due("new: rootFrom(0, 1, 7)", new MerkleLog().rootFrom(0, 1, 7), Model.leaf(7));
    }

    private static void promise1ObjectsShareNothing() {
        MerkleLog used = logOf(5);
        MerkleLog other = new MerkleLog();
        used.path(2, 5);
        check.hand("beside a used one", other);
        check.due("beside a used one: append(7)", other.append(7), 1);
        check.due("beside a used one: root(1)", other.root(1), Model.leaf(7));
        other.drop();
        check.hand("used, beside another", used, wholePath(2, 5));
    }

    private static int[] wholePath(int entry, int size) {
        Model model = modelOf(size);
        model.path(entry, size);
        return model.wholeHand();
    }

    private static int[] wholeSteps(int from, int to) {
        Model model = modelOf(to);
        model.steps(from, to);
        return model.wholeHand();
    }

    private static void promise2Append() {
        MerkleLog log = new MerkleLog();
        Model model = new Model();
        log.take(77);
        for (int number = 0; number < 40; number++) {
            int entry = entry(number);
            model.append(entry);
            check.due("append(" + entry + ")", log.append(entry), number + 1);
            check.due("then root(" + (number + 1) + ")", log.root(number + 1), model.root(number + 1));
            check.due("then root(" + number + ")", log.root(number), model.root(number));
        }
        check.hand("after appends", log, 77);
    }

    private static void promise2FullLog() {
        MerkleLog log = logOf(40);
        Model model = modelOf(40);
        fillHand(log, 3);
        for (int entry : FAR_OFF) {
            check.due("full: append(" + entry + ")", log.append(entry), -1);
        }
        check.due("full: append(0)", log.append(0), -1);
        for (int size = 0; size <= 40; size++) {
            check.due("full: root(" + size + ")", log.root(size), model.root(size));
        }
        check.due("full: root(41)", log.root(41), 0);
        check.due("full: path(40, 41)", log.path(40, 41), -1);
        check.hand("full", log, filledHand(3));
    }

    private static void promise3Root() {
        for (int count = 0; count <= 40; count++) {
            MerkleLog log = logOf(count);
            Model model = modelOf(count);
            fillHand(log, 2);
            for (int size = 0; size <= 40; size++) {
                String call = "with " + count + ": root(" + size + ")";
                check.due(call, log.root(size), size <= count ? model.root(size) : 0);
            }
            check.due("again with " + count + ": root", log.root(count), model.root(count));
            check.hand("after roots", log, filledHand(2));
        }
    }

    /** Numbers from a program in another language, so that Model is not the only witness. */
    private static void promise3KnownNumbers() {
        MerkleLog log = new MerkleLog();
        for (int entry : new int[] {Integer.MIN_VALUE, Integer.MAX_VALUE, -1, 0, 1}) {
            log.append(entry);
        }
        check.due("known: root(1)", log.root(1), 1013938516);
        check.due("known: root(2)", log.root(2), 1985833247);
        check.due("known: root(3)", log.root(3), 908191711);
        check.due("known: root(4)", log.root(4), -133034685);
        check.due("known: root(5)", log.root(5), -708629643);
    }

    private static void promise3WrongSizes() {
        for (int count : new int[] {0, 1, 7, 32, 40}) {
            MerkleLog log = logOf(count);
            for (int size : FAR_OFF) {
                check.due("with " + count + ": root(" + size + ")", log.root(size), 0);
            }
            check.due("with " + count + ": root(" + (count + 1) + ")", log.root(count + 1), 0);
        }
    }

    private static void promise4EveryPath() {
        for (int size = 1; size <= 40; size++) {
            for (int entry = 0; entry < size; entry++) {
                // A log that goes on past size must answer as if it ended there.
                for (int count : new int[] {size, 40}) {
                    MerkleLog log = logOf(count);
                    int[] want = wholePath(entry, size);
                    String call = "with " + count + ": path(" + entry + ", " + size + ")";
                    check.due(call, log.path(entry, size), want.length);
                    check.hand(call, log, want);
                    check.due(call + ": root", log.root(count), modelOf(count).root(count));
                }
            }
        }
    }

    private static void promise4WrongInputs() {
        for (int count : new int[] {0, 1, 6, 40}) {
            MerkleLog log = logOf(count);
            fillHand(log, 5);
            for (int far : FAR_OFF) {
                check.due("path(0, " + far + ")", log.path(0, far), -1);
                check.due("path(" + far + ", " + count + ")", log.path(far, count), -1);
                check.due("path(" + far + ", " + far + ")", log.path(far, far), -1);
            }
            check.due("path(0, 0)", log.path(0, 0), -1);
            check.due("path(-1, 0)", log.path(-1, 0), -1);
            check.due("path(0, count + 1)", log.path(0, count + 1), -1);
            check.due("path(count, count + 1)", log.path(count, count + 1), -1);
            for (int size = 1; size <= count; size++) {
                check.due("path(" + size + ", " + size + ")", log.path(size, size), -1);
                check.due("path(-1, " + size + ")", log.path(-1, size), -1);
            }
            check.hand("after wrong paths with " + count, log, filledHand(5));
            check.due("after wrong paths: root", log.root(count), modelOf(count).root(count));
        }
    }

    private static void promise4ReplacesAFullHand() {
        MerkleLog log = logOf(33);
        fillHand(log, 16);
        check.due("full hand: path(32, 33)", log.path(32, 33), 1);
        check.hand("full hand: path(32, 33)", log, wholePath(32, 33));
        fillHand(log, 16);
        check.due("full hand: path(0, 1)", log.path(0, 1), 0);
        check.hand("full hand: path(0, 1)", log);
        check.due("short hand: path(0, 33)", log.path(0, 33), 6);
        check.hand("short hand: path(0, 33)", log, wholePath(0, 33));
    }

    private static void promise5EverySteps() {
        for (int to = 1; to <= 40; to++) {
            for (int from = 1; from <= to; from++) {
                for (int count : new int[] {to, 40}) {
                    MerkleLog log = logOf(count);
                    int[] want = wholeSteps(from, to);
                    String call = "with " + count + ": steps(" + from + ", " + to + ")";
                    check.due(call, log.steps(from, to), want.length);
                    check.hand(call, log, want);
                    check.due(call + ": root", log.root(count), modelOf(count).root(count));
                }
            }
        }
    }

    private static void promise5WrongInputs() {
        for (int count : new int[] {0, 1, 6, 40}) {
            MerkleLog log = logOf(count);
            fillHand(log, 5);
            for (int far : FAR_OFF) {
                check.due("steps(1, " + far + ")", log.steps(1, far), -1);
                check.due("steps(" + far + ", " + count + ")", log.steps(far, count), -1);
                check.due("steps(" + far + ", " + far + ")", log.steps(far, far), -1);
            }
            check.due("steps(0, 0)", log.steps(0, 0), -1);
            check.due("steps(1, count + 1)", log.steps(1, count + 1), -1);
            check.due("steps(count + 1, count + 1)", log.steps(count + 1, count + 1), -1);
            for (int to = 1; to <= count; to++) {
                check.due("steps(0, " + to + ")", log.steps(0, to), -1);
                check.due("steps(" + (to + 1) + ", " + to + ")", log.steps(to + 1, to), -1);
            }
            check.hand("after wrong steps with " + count, log, filledHand(5));
            check.due("after wrong steps: root", log.root(count), modelOf(count).root(count));
        }
    }

    private static void promise5ReplacesAFullHand() {
        MerkleLog log = logOf(33);
        fillHand(log, 16);
        check.due("full hand: steps(32, 33)", log.steps(32, 33), 1);
        check.hand("full hand: steps(32, 33)", log, wholeSteps(32, 33));
        fillHand(log, 16);
        check.due("full hand: steps(33, 33)", log.steps(33, 33), 0);
        check.hand("full hand: steps(33, 33)", log);
        check.due("short hand: steps(31, 33)", log.steps(31, 33), 7);
        check.hand("short hand: steps(31, 33)", log, wholeSteps(31, 33));
    }

    private static void promise6Hand() {
        for (int count = 0; count <= 16; count++) {
            MerkleLog log = logOf(3);
            fillHand(log, count);
            for (int place = 0; place <= 17; place++) {
                check.due("of " + count + ": hand(" + place + ")", log.hand(place), place < count ? 1000 + place : 0);
            }
            for (int place : FAR_OFF) {
                check.due("of " + count + ": hand(" + place + ")", log.hand(place), 0);
            }
            check.hand("after looks", log, filledHand(count));
        }
        MerkleLog shrunk = logOf(3);
        fillHand(shrunk, 16);
        shrunk.path(2, 3);
        check.due("left behind: hand(1)", shrunk.hand(1), 0);
        check.due("left behind: hand(15)", shrunk.hand(15), 0);
    }

    private static void promise7Held() {
        MerkleLog log = logOf(7);
        check.due("after appends: held()", log.held(), 0);
        log.path(3, 7);
        check.due("after path: held()", log.held(), 3);
        check.due("asked again: held()", log.held(), 3);
        log.steps(3, 7);
        check.due("after steps: held()", log.held(), 4);
        log.take(1);
        check.due("after take: held()", log.held(), 5);
        log.alter(4, 2);
        log.rootFrom(0, 1, 3);
        log.root(7);
        log.append(8);
        check.due("after calls that keep the hand: held()", log.held(), 5);
        log.drop();
        check.due("after drop: held()", log.held(), 0);
        fillHand(log, 16);
        log.take(17);
        check.due("full: held()", log.held(), 16);
    }

    private static void promise8Alter() {
        int[] values = {0, 1, -1, Integer.MIN_VALUE, Integer.MAX_VALUE};
        for (int place = 0; place < 16; place++) {
            MerkleLog log = logOf(4);
            int[] want = filledHand(16);
            fillHand(log, 16);
            for (int value : values) {
                want[place] = value;
                check.due("alter(" + place + ", " + value + ")", log.alter(place, value), 0);
                check.hand("alter(" + place + ", " + value + ")", log, want);
            }
            check.due("after alter: root(4)", log.root(4), modelOf(4).root(4));
        }
        MerkleLog log = logOf(4);
        log.path(1, 4);
        log.alter(0, 5);
        log.alter(1, 6);
        check.hand("altered path", log, 5, 6);
        log.path(1, 4);
        check.hand("path asked anew", log, wholePath(1, 4));
    }

    private static void promise8WrongPlaces() {
        for (int count = 0; count <= 16; count++) {
            MerkleLog log = logOf(4);
            fillHand(log, 16);
            fillHand(log, count);
            check.due("alter(-1, 5)", log.alter(-1, 5), -1);
            for (int place = count; place <= 17; place++) {
                check.due("of " + count + ": alter(" + place + ", 5)", log.alter(place, 5), -1);
            }
            for (int place : FAR_OFF) {
                check.due("of " + count + ": alter(" + place + ", 5)", log.alter(place, 5), -1);
            }
            check.hand("after wrong alters", log, filledHand(count));
        }
    }

    private static void promise9Drop() {
        for (int count : new int[] {0, 1, 15, 16}) {
            MerkleLog log = logOf(9);
            fillHand(log, count);
            log.drop();
            check.hand("dropped", log);
            check.due("dropped: alter(0, 1)", log.alter(0, 1), -1);
            check.due("dropped: root(9)", log.root(9), modelOf(9).root(9));
            check.due("dropped: take(4)", log.take(4), 1);
            check.hand("dropped, then taken", log, 4);
            check.due("dropped: append(4)", log.append(4), 10);
        }
        MerkleLog log = logOf(9);
        log.path(4, 9);
        log.drop();
        log.drop();
        check.hand("dropped twice", log);
    }

    private static void promise10Take() {
        MerkleLog log = logOf(3);
        int[] values = {0, -1, Integer.MIN_VALUE, Integer.MAX_VALUE, 5, 5, 6, 7, 8, 9, 10, 11, 12, 13, 14, 15};
        for (int i = 0; i < 16; i++) {
            check.due("take(" + values[i] + ")", log.take(values[i]), i + 1);
            check.hand("take(" + values[i] + ")", log, java.util.Arrays.copyOf(values, i + 1));
        }
        check.due("full: take(16)", log.take(16), -1);
        check.due("full: take(0)", log.take(0), -1);
        check.hand("full, then take", log, values);
        check.due("after takes: root(3)", log.root(3), modelOf(3).root(3));

        MerkleLog onPath = logOf(3);
        onPath.path(2, 3);
        check.due("on a path: take(9)", onPath.take(9), 2);
        check.hand("on a path: take(9)", onPath, wholePath(2, 3)[0], 9);
    }

    private static void promise11EveryPathLeadsToTheRoot() {
        for (int size = 1; size <= 40; size++) {
            int root = modelOf(size).root(size);
            for (int entry = 0; entry < size; entry++) {
                MerkleLog log = logOf(40);
                log.path(entry, size);
                String call = "rootFrom(" + entry + ", " + size + ", entry)";
                check.due(call, log.rootFrom(entry, size, entry(entry)), root);
                check.hand("after " + call, log, wholePath(entry, size));
                int other = log.rootFrom(entry, size, entry(entry) + 1);
                check.holds(call + " with another value misses the root", other != root);
            }
        }
    }

    /** The log is empty or other than the numbers asked for, and the hand is made up. */
    private static void promise11HandAlone() {
        for (int size = 1; size <= 40; size++) {
            for (int entry = 0; entry < size; entry++) {
                for (int count : new int[] {0, 2, 40}) {
                    MerkleLog log = logOf(count);
                    Model model = new Model();
                    int length = Model.pathLength(entry, size);
                    fillHand(log, length);
                    for (int number : filledHand(length)) {
                        model.take(number);
                    }
                    String call = "with " + count + ": rootFrom(" + entry + ", " + size + ", -5)";
                    check.due(call, log.rootFrom(entry, size, -5), model.rootFrom(entry, size, -5));
                    check.hand("after " + call, log, filledHand(length));
                    check.due("after " + call + ": root", log.root(count), modelOf(count).root(count));
                }
            }
        }
    }

    private static void promise11WrongLengths() {
        for (int size = 1; size <= 40; size++) {
            for (int entry = 0; entry < size; entry++) {
                MerkleLog log = new MerkleLog();
                for (int length = 0; length <= 16; length++) {
                    fillHand(log, length);
                    if (length != Model.pathLength(entry, size)) {
                        String call = "hand of " + length + ": rootFrom(" + entry + ", " + size + ", 9)";
                        check.due(call, log.rootFrom(entry, size, 9), 0);
                    }
                }
                check.hand("after wrong lengths", log, filledHand(16));
            }
        }
    }

    private static void promise11WrongInputs() {
        for (int length = 0; length <= 16; length++) {
            MerkleLog log = logOf(40);
            fillHand(log, length);
            for (int far : FAR_OFF) {
                check.due("rootFrom(0, " + far + ", 9)", log.rootFrom(0, far, 9), 0);
                check.due("rootFrom(" + far + ", 40, 9)", log.rootFrom(far, 40, 9), 0);
                check.due("rootFrom(" + far + ", " + far + ", 9)", log.rootFrom(far, far, 9), 0);
            }
            check.due("rootFrom(0, 0, 9)", log.rootFrom(0, 0, 9), 0);
            check.due("rootFrom(-1, 0, 9)", log.rootFrom(-1, 0, 9), 0);
            check.due("rootFrom(40, 41, 9)", log.rootFrom(40, 41, 9), 0);
            for (int size = 1; size <= 40; size++) {
                check.due("rootFrom(" + size + ", " + size + ", 9)", log.rootFrom(size, size, 9), 0);
                check.due("rootFrom(-1, " + size + ", 9)", log.rootFrom(-1, size, 9), 0);
            }
            check.hand("after wrong inputs", log, filledHand(length));
        }
    }
}
