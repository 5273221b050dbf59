import java.util.ArrayList;
import java.util.List;

/**
 * The document's words put down as they stand, with recursion and lists, so that the class,
 * which may use neither, is held against something built another way.
 */
final class Model {
    private final List<Integer> log = new ArrayList<>();
    private List<Integer> hand = new ArrayList<>();

    static int mix(int x, int k) {
        x = (x ^ (x >>> 15)) * 739982445 + k;
        x = (x ^ (x >>> 12)) * 695872825 + k;
        return x ^ (x >>> 15);
    }

    static int leaf(int x) {
        return mix(x, 1);
    }

    static int node(int a, int b) {
        return mix(mix(a, 2) ^ b, 3);
    }

    /** The greatest power of 2 that is less than n. */
    static int k(int n) {
        return Integer.highestOneBit(n - 1);
    }

    static int rootOf(List<Integer> row) {
        int n = row.size();
        if (n == 0) {
            return 0;
        }
        if (n == 1) {
            return leaf(row.get(0));
        }
        int k = k(n);
        return node(rootOf(row.subList(0, k)), rootOf(row.subList(k, n)));
    }

    static List<Integer> pathOf(int m, List<Integer> row) {
        int n = row.size();
        if (n == 1) {
            return new ArrayList<>();
        }
        int k = k(n);
        List<Integer> first = row.subList(0, k);
        List<Integer> others = row.subList(k, n);
        return m < k
            ? joined(pathOf(m, first), rootOf(others))
            : joined(pathOf(m - k, others), rootOf(first));
    }

    static List<Integer> stepsOf(int m, List<Integer> row, boolean b) {
        int n = row.size();
        if (m == n) {
            return b ? new ArrayList<>() : joined(new ArrayList<>(), rootOf(row));
        }
        int k = k(n);
        List<Integer> first = row.subList(0, k);
        List<Integer> others = row.subList(k, n);
        return m <= k
            ? joined(stepsOf(m, first, b), rootOf(others))
            : joined(stepsOf(m - k, others, false), rootOf(first));
    }

    /** How many numbers a path of m in n entries has. */
    static int pathLength(int m, int n) {
        if (n == 1) {
            return 0;
        }
        int k = k(n);
        return 1 + (m < k ? pathLength(m, k) : pathLength(m - k, n - k));
    }

    /** The root that the value and its path ask for; the path's last number is the topmost. */
    static int rootBy(int m, int n, int value, List<Integer> path) {
        if (n == 1) {
            return leaf(value);
        }
        int k = k(n);
        int h = path.get(path.size() - 1);
        List<Integer> below = path.subList(0, path.size() - 1);
        return m < k
            ? node(rootBy(m, k, value, below), h)
            : node(h, rootBy(m - k, n - k, value, below));
    }

    private static List<Integer> joined(List<Integer> row, int last) {
        row.add(last);
        return row;
    }

    int append(int entry) {
        if (log.size() == 40) {
            return -1;
        }
        log.add(entry);
        return log.size();
    }

    int root(int size) {
        return size < 0 || size > log.size() ? 0 : rootOf(log.subList(0, size));
    }

    int path(int entry, int size) {
        if (size < 1 || size > log.size() || entry < 0 || entry > size - 1) {
            return -1;
        }
        hand = pathOf(entry, log.subList(0, size));
        return hand.size();
    }

    int steps(int from, int to) {
        if (!(1 <= from && from <= to && to <= log.size())) {
            return -1;
        }
        hand = stepsOf(from, log.subList(0, to), true);
        return hand.size();
    }

    int hand(int place) {
        return isInHand(place) ? hand.get(place) : 0;
    }

    int held() {
        return hand.size();
    }

    int alter(int place, int value) {
        if (!isInHand(place)) {
            return -1;
        }
        hand.set(place, value);
        return 0;
    }

    void drop() {
        hand.clear();
    }

    int take(int value) {
        if (hand.size() == 16) {
            return -1;
        }
        hand.add(value);
        return hand.size();
    }

    int rootFrom(int entry, int size, int value) {
        if (size < 1 || size > 40 || entry < 0 || entry > size - 1) {
            return 0;
        }
        return hand.size() == pathLength(entry, size) ? rootBy(entry, size, value, hand) : 0;
    }

    int[] wholeHand() {
        return hand.stream().mapToInt(Integer::intValue).toArray();
    }

    private boolean isInHand(int place) {
        return 0 <= place && place < hand.size();
    }
}
