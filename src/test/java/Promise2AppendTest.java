/** Promise 2: append. */
public final class Promise2AppendTest {
    private static final Check check = new Check();

    public static void main(String[] args) {
        check.test("promise 2: puts the entry at the end, answers the number then", Promise2AppendTest::everyEntry);
        check.test("promise 2: an entry is any int", Promise2AppendTest::anyInt);
        check.test("promise 2: equal entries are entries of their own", Promise2AppendTest::equalEntries);
        check.test("promise 2: the 40th entry is still taken", Promise2AppendTest::fortieth);
        check.test("promise 2: -1 and changes nothing if it has 40", Promise2AppendTest::fortyFirst);
        check.test("promise 2: a full log stays full", Promise2AppendTest::staysFull);
        check.finish();
    }

    private static void everyEntry() {
        MerkleLog log = new MerkleLog();
        Model model = new Model();
        log.take(77);
        for (int number = 0; number < 40; number++) {
            int entry = Sample.entry(number);
            model.append(entry);
            check.due("append(" + entry + ")", log.append(entry), number + 1);
            check.due("then root(" + (number + 1) + ")", log.root(number + 1), model.root(number + 1));
            check.due("then root(" + number + ")", log.root(number), model.root(number));
        }
        check.stands("after appends", log, 40, 77);
    }

    private static void anyInt() {
        for (int entry : Sample.ANY_INTS) {
            MerkleLog log = new MerkleLog();
            check.due("append(" + entry + ")", log.append(entry), 1);
            check.due("append(" + entry + "): root(1)", log.root(1), Model.leaf(entry));
        }
    }

    private static void equalEntries() {
        MerkleLog log = new MerkleLog();
        check.due("append(0)", log.append(0), 1);
        check.due("append(0) again", log.append(0), 2);
        check.due("root(2)", log.root(2), Model.node(Model.leaf(0), Model.leaf(0)));
    }

    private static void fortieth() {
        for (int held : Sample.HANDS) {
            MerkleLog log = Sample.logOf(39);
            Sample.fillHand(log, held);
            check.due("with 39: append", log.append(Sample.entry(39)), 40);
            check.stands("with 39: append", log, 40, Sample.filledHand(held));
        }
    }

    private static void fortyFirst() {
        for (int held : Sample.HANDS) {
            for (int entry : Sample.ANY_INTS) {
                check.changesNothing("append(" + entry + ")", 40, held, -1, log -> log.append(entry));
            }
            int last = Sample.entry(39);
            check.changesNothing("append of the last entry", 40, held, -1, log -> log.append(last));
        }
    }

    private static void staysFull() {
        MerkleLog log = Sample.logOf(40);
        for (int times = 0; times < 100; times++) {
            check.due("full: append(" + times + ")", log.append(times), -1);
        }
        check.due("full: path(40, 41)", log.path(40, 41), -1);
        check.due("full: steps(40, 41)", log.steps(40, 41), -1);
        check.stands("full", log, 40);
    }
}
