import java.math.BigInteger;
import java.util.ArrayList;
import java.util.Arrays;
import java.util.HashSet;
import java.util.List;
import java.util.Set;
import java.util.TreeSet;

/** The document's terms, reckoned word by word and slowly, for comparison. */
final class Model {
    static final int NONE = -1;
    final int d;
    final List<List<Integer>> told;
    final List<List<Integer>> elements = new ArrayList<>();
    final int[] why = new int[4];
    private int[][] products;

    /** Closed just if why[0] is 0. */
    Model(int d, List<int[]> turns) {
        this.d = d;
        told = new ArrayList<>();
        for (int[] t : turns) {
            told.add(listOf(t));
        }
        close();
    }

    int product(int k, int l) {
        if (products == null) {
            products = new int[size()][size()];
            for (int i = 0; i < size() * size(); i++) {
                products[i / size()][i % size()] = elements.indexOf(
                        times(elements.get(i / size()), elements.get(i % size())));
            }
        }
        return products[k][l];
    }

    static List<Integer> listOf(int[] t) {
        List<Integer> list = new ArrayList<>();
        for (int n : t) {
            list.add(n);
        }
        return list;
    }

    static boolean isTurn(int d, int[] t) {
        int a = 0;
        int b = 0;
        for (int i = 0; i < 8; i += 2) {
            a += t[i] * t[i] + d * t[i + 1] * t[i + 1];
            b += 2 * t[i] * t[i + 1];
        }
        return a == 16 && b == 0;
    }

    private void close() {
        elements.add(List.of(4, 0, 0, 0, 0, 0, 0, 0));
        for (int k = 0; k < elements.size(); k++) {
            for (int t = 0; t < told.size(); t++) {
                List<Integer> next = times(elements.get(k), told.get(t));
                boolean isNew = next != null && !elements.contains(next);
                if (next == null || isNew && elements.size() == 120) {
                    why[0] = next == null ? 1 : 2;
                    why[1] = elements.size();
                    why[2] = k;
                    why[3] = t;
                    return;
                }
                if (isNew) {
                    elements.add(next);
                }
            }
        }
    }

    /** The product as the document writes it; null if it has not four quarters. */
    List<Integer> times(List<Integer> g, List<Integer> h) {
        int[][] l = parts(g);
        int[][] r = parts(h);
        int[][] p = {
            sum(of(l[0], r[0]), less(of(l[1], r[1])), less(of(l[2], r[2])), less(of(l[3], r[3]))),
            sum(of(l[0], r[1]), of(l[1], r[0]), of(l[2], r[3]), less(of(l[3], r[2]))),
            sum(of(l[0], r[2]), of(l[2], r[0]), of(l[3], r[1]), less(of(l[1], r[3]))),
            sum(of(l[0], r[3]), of(l[3], r[0]), of(l[1], r[2]), less(of(l[2], r[1]))),
        };
        List<Integer> made = new ArrayList<>();
        for (int[] part : p) {
            for (int n : part) {
                if (Math.floorMod(n, 4) != 0) {
                    return null;
                }
                made.add(n / 4);
            }
        }
        return made;
    }

    private static int[][] parts(List<Integer> t) {
        int[][] parts = new int[4][2];
        for (int i = 0; i < 8; i++) {
            parts[i / 2][i % 2] = t.get(i);
        }
        return parts;
    }

    private int[] of(int[] a, int[] b) {
        return new int[] {a[0] * b[0] + d * a[1] * b[1], a[0] * b[1] + a[1] * b[0]};
    }

    private static int[] less(int[] a) {
        return new int[] {-a[0], -a[1]};
    }

    private static int[] sum(int[]... all) {
        int[] sum = new int[2];
        for (int[] one : all) {
            sum[0] += one[0];
            sum[1] += one[1];
        }
        return sum;
    }

    int size() {
        return elements.size();
    }

    int inverse(int k) {
        for (int l = 0; l < size(); l++) {
            if (product(k, l) == 0) {
                return l;
            }
        }
        return NONE;
    }

    int order(int k) {
        int n = 1;
        for (int p = k; p != 0; p = product(p, k)) {
            n++;
        }
        return n;
    }

    int exponent() {
        for (int n = 1;; n++) {
            boolean all = true;
            for (int k = 0; k < size(); k++) {
                all &= n % order(k) == 0;
            }
            if (all) {
                return n;
            }
        }
    }

    int minus() {
        return elements.indexOf(List.of(-4, 0, 0, 0, 0, 0, 0, 0));
    }

    List<Set<Integer>> classes() {
        List<Set<Integer>> classes = new ArrayList<>();
        Set<Integer> seen = new HashSet<>();
        for (int g = 0; g < size(); g++) {
            if (!seen.contains(g)) {
                Set<Integer> cls = new TreeSet<>();
                for (int h = 0; h < size(); h++) {
                    cls.add(product(product(inverse(h), g), h));
                }
                seen.addAll(cls);
                classes.add(cls);
            }
        }
        return classes;
    }

    int kind() {
        Set<Integer> orders = new HashSet<>();
        for (int k = 0; k < size(); k++) {
            orders.add(order(k));
        }
        if (orders.contains(size())) {
            return 0;
        }
        if (size() % 2 == 0 && orders.contains(size() / 2)) {
            return 1;
        }
        return size() == 24 ? 2 : size() == 48 ? 3 : size() == 120 ? 4 : NONE;
    }

    int kindNumber() {
        return new int[] {size(), size() / 4, 3, 4, 5}[kind()];
    }

    int turned() {
        return minus() == NONE ? size() : size() / 2;
    }

    /** Axes of n, each axis with the elements about it looked at by its directions. */
    int axes(int n) {
        int axes = 0;
        for (int k = 0; k < size(); k++) {
            boolean first = hasAxis(k);
            Set<Set<Integer>> about = new HashSet<>();
            for (int l = 0; l < size(); l++) {
                if (!hasAxis(l) || hasAxis(k) && sameAxis(k, l)) {
                    first &= l >= k || !hasAxis(l);
                    Set<Integer> turn = new TreeSet<>();
                    turn.add(l);
                    if (minus() != NONE) {
                        turn.add(product(minus(), l));
                    }
                    about.add(turn);
                }
            }
            if (first && about.size() == n) {
                axes++;
            }
        }
        return axes;
    }

    private boolean hasAxis(int k) {
        return !elements.get(k).subList(2, 8).equals(List.of(0, 0, 0, 0, 0, 0));
    }

    private boolean sameAxis(int k, int l) {
        int[][] u = parts(elements.get(k));
        int[][] v = parts(elements.get(l));
        for (int i = 1; i < 4; i++) {
            int j = i % 3 + 1;
            if (!Arrays.equals(of(u[i], v[j]), of(u[j], v[i]))) {
                return false;
            }
        }
        return true;
    }

    /** P and S. */
    int[] prime() {
        int e = exponent();
        for (int p = 2 * size() + 1;; p++) {
            if (BigInteger.valueOf(p).isProbablePrime(50) && p % e == 1 % e) {
                for (int s = 1; s < p; s++) {
                    if ((s * s - d) % p == 0) {
                        return new int[] {p, s};
                    }
                }
            }
        }
    }

    int couples(Set<Integer> i, Set<Integer> j, int product) {
        int couples = 0;
        for (int x : i) {
            for (int y : j) {
                if (product(x, y) == product) {
                    couples++;
                }
            }
        }
        return couples;
    }

    Set<Integer> made(int k, int l) {
        Set<Integer> made = new TreeSet<>(List.of(0, k, l));
        for (boolean grows = true; grows;) {
            Set<Integer> more = new TreeSet<>(made);
            for (int x : made) {
                for (int y : made) {
                    more.add(product(x, y));
                }
            }
            grows = more.size() > made.size();
            made = more;
        }
        return made;
    }

    boolean isKept(Set<Integer> group) {
        for (int g : group) {
            for (int h = 0; h < size(); h++) {
                if (!group.contains(product(product(inverse(h), g), h))) {
                    return false;
                }
            }
        }
        return true;
    }

    /** Invariants of all degrees to the highest one, by exact rows whose k-th is over 4 to the k. */
    long[] invariants(int highest) {
        long[] invariants = new long[highest + 1];
        BigInteger[][][] rows = new BigInteger[highest + 1][size()][];
        for (int k = 0; k <= highest; k++) {
            BigInteger whole = BigInteger.ZERO;
            BigInteger ofRoot = BigInteger.ZERO;
            for (int g = 0; g < size(); g++) {
                rows[k][g] = exact(rows, k, g);
                whole = whole.add(rows[k][g][0]);
                ofRoot = ofRoot.add(rows[k][g][1]);
            }
            BigInteger by = BigInteger.valueOf(size()).multiply(BigInteger.valueOf(4).pow(k));
            if (ofRoot.signum() != 0 || whole.mod(by).signum() != 0) {
                throw new AssertionError("no count of invariants");
            }
            invariants[k] = whole.divide(by).longValueExact();
        }
        return invariants;
    }

    private BigInteger[] exact(BigInteger[][][] rows, int k, int g) {
        if (k == 0) {
            return new BigInteger[] {BigInteger.ONE, BigInteger.ZERO};
        }
        BigInteger a = BigInteger.valueOf(2 * elements.get(g).get(0));
        BigInteger b = BigInteger.valueOf(2 * elements.get(g).get(1));
        if (k == 1) {
            return new BigInteger[] {a, b};
        }
        BigInteger[] one = rows[k - 1][g];
        BigInteger[] two = rows[k - 2][g];
        BigInteger root = BigInteger.valueOf(d);
        BigInteger over = BigInteger.valueOf(16);
        return new BigInteger[] {
            a.multiply(one[0]).add(root.multiply(b).multiply(one[1])).subtract(two[0].multiply(over)),
            a.multiply(one[1]).add(b.multiply(one[0])).subtract(two[1].multiply(over)),
        };
    }
}
