import java.util.ArrayList;
import java.util.List;
import java.util.Random;
import java.util.Set;

/** Compares all that is answered of one group with the model, on objects of fewer than 500 calls each. */
final class GroupCheck {
    private final Model m;
    private final String text;
    private final List<Set<Integer>> classes;
    private final Random random;
    private final int[] classOf;
    private final int[] inverseClass;
    private final int p;
    private final int s;
    private final int[] natural;
    private int[][] values;
    private int[] degrees;
    private int[][] ways;
    private DoubleTurns x;
    private int calls;

    GroupCheck(int d, List<int[]> turns, Random random) {
        this.random = random;
        text = Texts.of(d, turns.toArray(new int[0][]));
        m = new Model(d, turns);
        classes = m.classes();
        classOf = new int[m.size()];
        inverseClass = new int[classes.size()];
        for (int c = 0; c < classes.size(); c++) {
            for (int g : classes.get(c)) {
                classOf[g] = c;
            }
        }
        for (int c = 0; c < classes.size(); c++) {
            inverseClass[c] = classOf[m.inverse(least(c))];
        }
        int[] prime = m.prime();
        p = prime[0];
        s = prime[1];
        natural = new int[classes.size()];
        for (int c = 0; c < classes.size(); c++) {
            List<Integer> e = m.elements.get(least(c));
            natural[c] = divide(e.get(0) + e.get(1) * s, 2);
        }
    }

    /** The object under test: a new one told the same before the older one's calls run out. */
    private DoubleTurns x() {
        if (x == null || calls > 450) {
            x = new DoubleTurns();
            calls = 0;
            due("text", Texts.tell(x, text), m.size());
        }
        calls++;
        return x;
    }

    private void due(String call, long got, long want) {
        Check.due(text + " " + call, got, want);
    }

    private int least(int cls) {
        return classes.get(cls).iterator().next();
    }

    private int divide(int a, int b) {
        for (int q = 0; q < p; q++) {
            if ((q * b - a) % p == 0) {
                return q;
            }
        }
        throw new AssertionError("no quotient");
    }

    void run() {
        told();
        elements();
        products();
        ofClasses();
        axes();
        characters();
        oftens();
        graph();
        rows();
        made();
        orders();
        print();
    }

    private void told() {
        int central = 0;
        for (Set<Integer> cls : classes) {
            central += cls.size() == 1 ? 1 : 0;
        }
        int[] want = {m.d, m.told.size(), m.size(), classes.size(), central, m.exponent(), m.kind(), m.kindNumber(),
            m.turned(), m.minus(), p, s};
        for (int what = 0; what < want.length; what++) {
            due("told " + what, x().told(what), want[what]);
        }
        due("rank", x().told(13), classes.size() - 1);
        due("acts", x().told(14), 0);
    }

    private void elements() {
        for (int k = 0; k < m.size(); k++) {
            for (int what = 0; what < 8; what++) {
                due("element " + k + " " + what, x().element(k, what), m.elements.get(k).get(what));
            }
            due("order of " + k, x().element(k, 8), m.order(k));
            due("inverse of " + k, x().element(k, 9), m.inverse(k));
            due("class of " + k, x().element(k, 10), classOf[k]);
            List<Integer> e = m.elements.get(k);
            due("find " + k, x().find(e.get(0), e.get(1), e.get(2), e.get(3), e.get(4), e.get(5), e.get(6), e.get(7)), k);
        }
        for (int i = 0; i < 30; i++) {
            int[] t = Turns.any(m.d, random);
            due("find", Texts.find(x(), t), m.elements.indexOf(Model.listOf(t)));
            t[random.nextInt(8)] += 4 * random.nextInt(3);
            due("find", Texts.find(x(), t), m.elements.indexOf(Model.listOf(t)));
        }
    }

    private void products() {
        boolean all = m.size() <= 24;
        for (int i = 0; i < (all ? m.size() * m.size() : 900); i++) {
            int k = all ? i / m.size() : random.nextInt(m.size());
            int l = all ? i % m.size() : random.nextInt(m.size());
            due("product " + k + " " + l, x().product(k, l), m.product(k, l));
        }
        for (int i = 0; i < 60; i++) {
            int k = random.nextInt(m.size());
            int n = random.nextInt(61) - 30;
            int by = n < 0 ? m.inverse(k) : k;
            int want = 0;
            for (int j = 0; j < Math.abs(n); j++) {
                want = m.product(want, by);
            }
            due("power " + k + " " + n, x().power(k, n), want);
        }
        for (int n : new int[] {Integer.MIN_VALUE, Integer.MIN_VALUE + 1, Integer.MAX_VALUE, 1000000007}) {
            int k = random.nextInt(m.size());
            due("power " + k + " " + n, x().power(k, n), x().power(k, Math.floorMod(n, m.order(k))));
        }
    }

    private void ofClasses() {
        for (int c = 0; c < classes.size(); c++) {
            List<Integer> e = m.elements.get(least(c));
            int[] want = {classes.get(c).size(), least(c), m.order(least(c)), inverseClass[c], natural[c], e.get(0), e.get(1)};
            for (int what = 0; what < 7; what++) {
                due("of " + c + " " + what, x().of(c, what), want[what]);
            }
            for (int i = 0; i < classes.size(); i++) {
                int j = random.nextInt(classes.size());
                due("couples " + i + " " + j + " " + c, x().couples(i, j, c),
                        m.couples(classes.get(i), classes.get(j), least(c)));
            }
        }
    }

    private void axes() {
        for (int n = 2; n <= 120; n += n < 13 ? 1 : 9) {
            due("axes " + n, x().axes(n), m.axes(n));
        }
    }

    /** The terms allow just one numbered list of characters: each promise of it is looked at. */
    private void characters() {
        int count = classes.size();
        values = new int[count][count];
        degrees = new int[count];
        for (int c = 0; c < count; c++) {
            degrees[c] = x().degree(c);
            for (int k = 0; k < count; k++) {
                values[c][k] = x().value(c, k);
            }
            due("degree by its rule", degreeByRule(c), degrees[c]);
            due("central row " + c, isCentral(c) ? 1 : 0, 1);
            due("place of " + c, c < 2 || isAhead(c - 1, c) ? 1 : 0, 1);
            due("1 everywhere " + c, isOne(c) ? 1 : 0, c == 0 ? 1 : 0);
        }
    }

    private int[] central(int c) {
        int[] v = new int[classes.size()];
        for (int k = 0; k < v.length; k++) {
            v[k] = divide(values[c][k] * classes.get(k).size(), degrees[c]);
        }
        return v;
    }

    private int degreeByRule(int c) {
        int[] v = central(c);
        int sum = 0;
        for (int k = 0; k < v.length; k++) {
            sum += divide(v[k] * v[inverseClass[k]], classes.get(k).size());
        }
        for (int d = 1; d <= 10; d++) {
            if ((d * d * (sum % p) - m.size()) % p == 0) {
                return d;
            }
        }
        return 0;
    }

    private boolean isCentral(int c) {
        int[] v = central(c);
        boolean central = v[0] != 0;
        for (int i = 0; i < v.length; i++) {
            for (int j = 0; j < v.length; j++) {
                int sum = 0;
                for (int k = 0; k < v.length; k++) {
                    sum += v[k] * m.couples(classes.get(i), classes.get(j), least(k));
                }
                central &= (sum - v[i] * v[j]) % p == 0;
            }
        }
        return central;
    }

    private boolean isAhead(int a, int b) {
        for (int k = 0; k < classes.size() && degrees[a] == degrees[b]; k++) {
            if (values[a][k] != values[b][k]) {
                return values[a][k] < values[b][k];
            }
        }
        return degrees[a] < degrees[b];
    }

    private boolean isOne(int c) {
        for (int v : values[c]) {
            if (v != 1) {
                return false;
            }
        }
        return true;
    }

    private int howOften(int[] row, int c) {
        int sum = 0;
        for (int k = 0; k < row.length; k++) {
            sum = (sum + classes.get(k).size() * row[k] * values[c][inverseClass[k]]) % p;
        }
        return divide(sum, m.size());
    }

    private static int[] times(int[] a, int[] b, int p) {
        int[] product = new int[a.length];
        for (int i = 0; i < a.length; i++) {
            product[i] = a[i] * b[i] % p;
        }
        return product;
    }

    private void oftens() {
        int count = classes.size();
        for (int a = 0; a < count; a++) {
            int[] turnedBack = new int[count];
            for (int k = 0; k < count; k++) {
                turnedBack[k] = values[a][inverseClass[k]];
            }
            due("opposite " + a, java.util.Arrays.equals(values[x().opposite(a)], turnedBack) ? 1 : 0, 1);
            for (int b = 0; b < count; b++) {
                int in = random.nextInt(count);
                due("often " + a + " " + b + " " + in, x().often(a, b, in), howOften(times(values[a], values[b], p), in));
            }
        }
    }

    private void graph() {
        int count = classes.size();
        ways = new int[count][count];
        int[] from = new int[count];
        List<Integer> ends = new ArrayList<>();
        for (int a = 0; a < count; a++) {
            for (int b = 0; b < count; b++) {
                ways[a][b] = howOften(times(natural, values[a], p), b);
                from[a] += ways[a][b];
                due("ways " + a + " " + b, x().ways(a, b), ways[a][b]);
            }
            if (from[a] == 1) {
                ends.add(a);
            }
        }
        for (int n = 0; n <= 4; n++) {
            int with = 0;
            for (int f : from) {
                with += f == n ? 1 : 0;
            }
            due("withWays " + n, x().withWays(n), with);
        }
        due("diagram", x().told(12), ends.size() == 4 ? 1 : ends.size() == 3 ? 2 : 0);
        for (int a = 0; a < count; a++) {
            int[] far = distances(a);
            for (int b = 0; b < count; b++) {
                due("far " + a + " " + b, x().far(a, b), far[b]);
            }
        }
    }

    private int[] distances(int from) {
        int[] far = new int[ways.length];
        java.util.Arrays.fill(far, Model.NONE);
        far[from] = 0;
        List<Integer> line = new ArrayList<>(List.of(from));
        for (int i = 0; i < line.size(); i++) {
            for (int b = 0; b < ways.length; b++) {
                if (ways[line.get(i)][b] > 0 && far[b] == Model.NONE) {
                    far[b] = far[line.get(i)] + 1;
                    line.add(b);
                }
            }
        }
        return far;
    }

    private void rows() {
        long[] invariants = m.invariants(200);
        int[][] rows = new int[201][classes.size()];
        int[] found = new int[classes.size()];
        for (int k = 0; k <= 200; k++) {
            for (int i = 0; i < natural.length; i++) {
                rows[k][i] = k == 0 ? 1 : k == 1 ? natural[i]
                        : Math.floorMod(natural[i] * rows[k - 1][i] - rows[k - 2][i], p);
            }
            if (k < 40 || k % 10 < 2) {
                due("invariants " + k, x().invariants(k), invariants[k]);
            }
            for (int c = 0; c < classes.size(); c++) {
                int often = howOften(rows[k], c);
                if (k < 8 || random.nextInt(20) == 0) {
                    due("inRow " + c + " " + k, x().inRow(c, k), often);
                }
                if (often != 0) {
                    if (found[c] < 5 || random.nextInt(10) == 0) {
                        due("row " + c + " " + found[c], x().row(c, found[c]), k);
                    }
                    found[c]++;
                }
            }
        }
        for (int c = 0; c < classes.size(); c++) {
            due("row behind the last of " + c, x().row(c, found[c]), Model.NONE);
            due("row -1 of " + c, x().row(c, -1), Model.NONE);
        }
    }

    private void made() {
        for (int i = 0; i < 25; i++) {
            int k = random.nextInt(m.size());
            int l = i % 5 == 0 ? k : random.nextInt(m.size());
            Set<Integer> made = m.made(k, l);
            int beside = 0;
            while (made.contains(beside)) {
                beside++;
            }
            due("made " + k + " " + l + " 0", x().made(k, l, 0), made.size());
            due("made " + k + " " + l + " 1", x().made(k, l, 1), beside == m.size() ? Model.NONE : beside);
            due("isKept " + k + " " + l, x().isKept(k, l) ? 1 : 0, m.isKept(made) ? 1 : 0);
            for (int j = 0; j < 12; j++) {
                int e = random.nextInt(m.size());
                due("isMade " + k + " " + l + " " + e, x().isMade(k, l, e) ? 1 : 0, made.contains(e) ? 1 : 0);
            }
        }
        int[] makers = makers();
        due("makers 1", x().makers(1), makers[1]);
        due("makers 0", x().makers(0), makers[0]);
    }

    private int[] makers() {
        for (int k = 0; k < m.size(); k++) {
            for (int l = 0; l < m.size(); l++) {
                if (m.made(k, l).size() == m.size()) {
                    return new int[] {k, l};
                }
            }
        }
        return new int[] {Model.NONE, Model.NONE};
    }

    private void orders() {
        for (int order = 1; order <= 120; order += order < 14 ? 1 : 7) {
            int least = Model.NONE;
            int count = 0;
            for (int k = m.size() - 1; k >= 0; k--) {
                if (m.order(k) == order) {
                    least = k;
                    count++;
                }
            }
            due("ofOrder " + order + " 0", x().ofOrder(order, 0), least);
            due("ofOrder " + order + " 1", x().ofOrder(order, 1), count);
        }
    }

    private void print() {
        long print = 0;
        for (int k = 0; k < m.size(); k++) {
            print = 31 * (31 * print + m.order(k)) + classOf[k];
        }
        due("print", x().print(), print);
    }
}
