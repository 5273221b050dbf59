import java.util.function.ToIntFunction;

/** Promise 1: a new object is as the document's terms say. */
public final class Promise1NewObjectTest {
    private static final Check check = new Check();

    public static void main(String[] args) {
        check.test("promise 1: the log is empty at the start", Promise1NewObjectTest::logEmpty);
        check.test("promise 1: the hand is empty at the start", Promise1NewObjectTest::handEmpty);
        check.test("promise 1: a new object refuses what an empty log or hand refuses", Promise1NewObjectTest::refuses);
        check.test("promise 1: objects share nothing", Promise1NewObjectTest::objectsShareNothing);
        check.test("promise 1: an object is used for at most 512 calls", Promise1NewObjectTest::lastCall);
        check.finish();
    }

    private static void logEmpty() {
        check.log("new", new MerkleLog(), 0);
        check.due("new: append(7)", new MerkleLog().append(7), 1);
        for (int size = 1; size <= 40; size++) {
            check.due("new: root(" + size + ")", new MerkleLog().root(size), 0);
        }
    }

    private static void handEmpty() {
        check.hand("new", new MerkleLog());
        for (int place = 0; place <= 16; place++) {
            check.due("new: hand(" + place + ")", new MerkleLog().hand(place), 0);
        }
        check.due("new: take(7)", new MerkleLog().take(7), 1);
        check.due("new: rootFrom(0, 1, 7)", new MerkleLog().rootFrom(0, 1, 7), Model.leaf(7));
    }

    private static void refuses() {
        firstCall("path(0, 0)", -1, log -> log.path(0, 0));
        firstCall("path(0, 1)", -1, log -> log.path(0, 1));
        firstCall("steps(0, 0)", -1, log -> log.steps(0, 0));
        firstCall("steps(0, 1)", -1, log -> log.steps(0, 1));
        firstCall("steps(1, 1)", -1, log -> log.steps(1, 1));
        firstCall("alter(0, 7)", -1, log -> log.alter(0, 7));
        firstCall("rootFrom(0, 2, 7)", 0, log -> log.rootFrom(0, 2, 7));
    }

    /** Not by Check.changesNothing: there the hand has been dropped before, and here nothing has. */
    private static void firstCall(String call, int answer, ToIntFunction<MerkleLog> made) {
        MerkleLog log = new MerkleLog();
        check.due("new: " + call, made.applyAsInt(log), answer);
        check.stands("new, then " + call, log, 0);
    }

    private static void objectsShareNothing() {
        MerkleLog used = Sample.logOf(5);
        MerkleLog other = new MerkleLog();
        used.path(2, 5);
        check.hand("beside a used one", other);
        check.log("beside a used one", other, 0);
        for (int number = 1; number <= 40; number++) {
            check.due("beside a used one: append(7)", other.append(7), number);
        }
        check.due("beside a used one: root(1)", other.root(1), Model.leaf(7));
        Sample.fillHand(other, 16);
        check.hand("used, beside a full one", used, Sample.wholePath(2, 5));
        check.hand("full, beside a used one", other, Sample.filledHand(16));
        other.drop();
        check.stands("used, beside a dropped one", used, 5, Sample.wholePath(2, 5));
    }

    private static void lastCall() {
        lastCall("append", 8, log -> log.append(1));
        lastCall("root", Sample.modelOf(7).root(7), log -> log.root(7));
        lastCall("path", 3, log -> log.path(0, 7));
        lastCall("steps", 4, log -> log.steps(3, 7));
        lastCall("hand", 1001, log -> log.hand(1));
        lastCall("held", 2, log -> log.held());
        lastCall("alter", 0, log -> log.alter(1, 9));
        lastCall("take", 3, log -> log.take(9));
        int root = Model.node(Model.node(Model.leaf(9), 1000), 1001);
        lastCall("rootFrom", root, log -> log.rootFrom(0, 4, 9));
    }

    /** The made call is the 512th: 7 appends, a drop, 2 takes and 501 more stand before it. */
    private static void lastCall(String call, int answer, ToIntFunction<MerkleLog> made) {
        MerkleLog log = Sample.logOf(7);
        Sample.fillHand(log, 2);
        for (int calls = 0; calls < 501; calls++) {
            check.due("one of 512 calls: root(3)", log.root(3), Sample.modelOf(3).root(3));
        }
        check.due("the 512th call: " + call, made.applyAsInt(log), answer);
    }
}
