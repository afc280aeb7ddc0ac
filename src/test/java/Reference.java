import java.util.ArrayList;
import java.util.List;
import java.util.TreeSet;

/**
 * The document's answers by slow ways of their own: weights from a basis of the rows and Gauss's
 * elimination over fractions of any size, and the rest by the words of the document.
 * An answer of null is one that is not told.
 */
final class Reference {
    int columns = 1;
    final List<int[]> numbers = new ArrayList<>();
    final List<Integer> tolds = new ArrayList<>();
    final List<Boolean> kept = new ArrayList<>();

    void start(int newColumns) {
        columns = newColumns;
        numbers.clear();
        tolds.clear();
        kept.clear();
    }

    void add(int told, int... row) {
        numbers.add(row.clone());
        tolds.add(told);
        kept.add(true);
    }

    List<Integer> keptRows() {
        List<Integer> rows = new ArrayList<>();
        for (int r = 0; r < kept.size(); r++) {
            if (kept.get(r)) {
                rows.add(r);
            }
        }
        return rows;
    }

    int allColumns() {
        return (1 << columns) - 1;
    }

    Frac[] told(List<Integer> rows) {
        Frac[] y = new Frac[rows.size()];
        for (int i = 0; i < y.length; i++) {
            y[i] = Frac.of(tolds.get(rows.get(i)));
        }
        return y;
    }

    /** The rows' numbers in the columns of a mask; other columns are left away. */
    Frac[][] matrix(List<Integer> rows, int mask) {
        Frac[][] x = new Frac[rows.size()][Integer.bitCount(mask)];
        for (int i = 0; i < x.length; i++) {
            int to = 0;
            for (int c = 0; c < columns; c++) {
                if ((mask >> c & 1) != 0) {
                    x[i][to++] = Frac.of(numbers.get(rows.get(i))[c]);
                }
            }
        }
        return x;
    }

    static int rank(Frac[][] x) {
        return basis(x).size();
    }

    /** The first rows that are independent of those before. */
    static List<Frac[]> basis(Frac[][] x) {
        List<Frac[]> chosen = new ArrayList<>();
        List<Frac[]> reduced = new ArrayList<>();
        for (Frac[] row : x) {
            Frac[] rest = row.clone();
            for (Frac[] by : reduced) {
                int lead = lead(by);
                Frac factor = rest[lead].over(by[lead]);
                for (int c = 0; c < rest.length; c++) {
                    rest[c] = rest[c].minus(factor.times(by[c]));
                }
            }
            if (lead(rest) >= 0) {
                reduced.add(rest);
                chosen.add(row);
            }
        }
        return chosen;
    }

    private static int lead(Frac[] row) {
        for (int c = 0; c < row.length; c++) {
            if (!row[c].isZero()) {
                return c;
            }
        }
        return -1;
    }

    /** The solution of as many equations as there are unknowns; null if there is not just one. */
    static Frac[] solve(Frac[][] given, Frac[] right) {
        int n = right.length;
        Frac[][] m = new Frac[n][n + 1];
        for (int i = 0; i < n; i++) {
            System.arraycopy(given[i], 0, m[i], 0, n);
            m[i][n] = right[i];
        }
        for (int c = 0; c < n; c++) {
            int from = c;
            while (from < n && m[from][c].isZero()) {
                from++;
            }
            if (from == n) {
                return null;
            }
            Frac[] swap = m[c];
            m[c] = m[from];
            m[from] = swap;
            for (int i = 0; i < n; i++) {
                if (i != c && !m[i][c].isZero()) {
                    Frac factor = m[i][c].over(m[c][c]);
                    for (int j = c; j <= n; j++) {
                        m[i][j] = m[i][j].minus(factor.times(m[c][j]));
                    }
                }
            }
        }
        Frac[] solution = new Frac[n];
        for (int i = 0; i < n; i++) {
            solution[i] = m[i][n].over(m[i][i]);
        }
        return solution;
    }

    static Frac product(Frac[] a, Frac[] b) {
        Frac all = Frac.ZERO;
        for (int i = 0; i < a.length; i++) {
            all = all.plus(a[i].times(b[i]));
        }
        return all;
    }

    /** The least weights are in the rows' span: looked for are the factors of a basis of it. */
    static Frac[] squares(Frac[][] x, Frac[] y, int width) {
        List<Frac[]> basis = basis(x);
        int n = basis.size();
        Frac[][] z = new Frac[x.length][n];
        for (int i = 0; i < x.length; i++) {
            for (int b = 0; b < n; b++) {
                z[i][b] = product(x[i], basis.get(b));
            }
        }
        Frac[][] normal = new Frac[n][n];
        Frac[] right = new Frac[n];
        for (int i = 0; i < n; i++) {
            right[i] = Frac.ZERO;
            for (int r = 0; r < x.length; r++) {
                right[i] = right[i].plus(z[r][i].times(y[r]));
            }
            for (int j = 0; j < n; j++) {
                normal[i][j] = Frac.ZERO;
                for (Frac[] row : z) {
                    normal[i][j] = normal[i][j].plus(row[i].times(row[j]));
                }
            }
        }
        Frac[] factors = solve(normal, right);
        Frac[] weights = new Frac[width];
        for (int c = 0; c < width; c++) {
            weights[c] = Frac.ZERO;
            for (int b = 0; b < n; b++) {
                weights[c] = weights[c].plus(factors[b].times(basis.get(b)[c]));
            }
        }
        return weights;
    }

    static Frac leftOver(Frac[][] x, Frac[] y, Frac[] w) {
        Frac all = Frac.ZERO;
        for (int i = 0; i < x.length; i++) {
            Frac miss = y[i].minus(product(x[i], w));
            all = all.plus(miss.times(miss));
        }
        return all;
    }

    int free() {
        return rank(matrix(keptRows(), allColumns()));
    }

    Frac[] weights() {
        return weightsOf(keptRows());
    }

    Frac[] weightsOf(List<Integer> rows) {
        return squares(matrix(rows, allColumns()), told(rows), columns);
    }

    Frac miss(int row) {
        List<Integer> one = List.of(row);
        return told(one)[0].minus(product(matrix(one, allColumns())[0], weights()));
    }

    Frac sumOf(List<Integer> rows, int mask) {
        Frac[][] x = matrix(rows, mask);
        Frac[] y = told(rows);
        return leftOver(x, y, squares(x, y, Integer.bitCount(mask)));
    }

    Frac[] weightsIfRaised(int row) {
        int told = tolds.get(row);
        tolds.set(row, told + 1);
        Frac[] raised = weights();
        tolds.set(row, told);
        return raised;
    }

    Frac pull(int row) {
        if (!kept.get(row)) {
            return null;
        }
        Frac[] x = matrix(List.of(row), allColumns())[0];
        return product(x, weightsIfRaised(row)).minus(product(x, weights()));
    }

    Frac[] without(int row) {
        if (!kept.get(row)) {
            return null;
        }
        List<Integer> rows = keptRows();
        rows.remove(Integer.valueOf(row));
        return weightsOf(rows);
    }

    Frac far(int row, int c) {
        if (!kept.get(row) || free() != columns) {
            return null;
        }
        Frac now = weights()[c];
        Frac rise = weightsIfRaised(row)[c].minus(now);
        return rise.isZero() ? null : now.negated().over(rise);
    }

    /** The set; its sum is sumOf(keptRows(), set). */
    int few(int many) {
        int best = -1;
        Frac least = null;
        for (int mask = allColumns(); mask >= 0; mask--) {
            if (Integer.bitCount(mask) == many) {
                Frac left = sumOf(keptRows(), mask);
                if (least == null || left.compareTo(least) <= 0) {
                    least = left;
                    best = mask;
                }
            }
        }
        return best;
    }

    /** All choices of so many of a list, in the order of their first difference. */
    static List<List<Integer>> choices(List<Integer> of, int many) {
        List<List<Integer>> all = new ArrayList<>();
        choose(of, 0, many, new ArrayList<>(), all);
        return all;
    }

    private static void choose(List<Integer> of, int from, int many, List<Integer> have,
            List<List<Integer>> all) {
        if (many == 0) {
            all.add(new ArrayList<>(have));
            return;
        }
        for (int i = from; i < of.size(); i++) {
            have.add(of.get(i));
            choose(of, i + 1, many - 1, have, all);
            have.remove(have.size() - 1);
        }
    }

    List<Integer> half(int many) {
        List<Integer> best = null;
        Frac least = null;
        for (List<Integer> rows : choices(keptRows(), many)) {
            Frac left = sumOf(rows, allColumns());
            if (least == null || left.compareTo(least) < 0) {
                least = left;
                best = rows;
            }
        }
        return best;
    }

    Frac sizesOf(Frac[] w) {
        Frac all = Frac.ZERO;
        List<Integer> rows = keptRows();
        Frac[][] x = matrix(rows, allColumns());
        Frac[] y = told(rows);
        for (int i = 0; i < x.length; i++) {
            all = all.plus(y[i].minus(product(x[i], w)).size());
        }
        return all;
    }

    /** The weights by SIZES; null if not told. */
    Frac[] sized() {
        if (free() != columns) {
            return null;
        }
        Frac[] best = null;
        Frac least = null;
        for (List<Integer> rows : choices(keptRows(), columns)) {
            Frac[] w = solve(matrix(rows, allColumns()), told(rows));
            if (w != null) {
                Frac all = sizesOf(w);
                if (least == null || all.compareTo(least) < 0) {
                    least = all;
                    best = w;
                }
            }
        }
        return best;
    }

    /** The least level that any weights reach, by the corners of all weights with their levels. */
    Frac level() {
        if (free() != columns) {
            return null;
        }
        List<Integer> rows = keptRows();
        if (sumOf(rows, allColumns()).isZero()) {
            return Frac.ZERO;
        }
        int n = columns + 1;
        long bestTop = -1;
        long bestBottom = 1;
        for (List<Integer> set : choices(rows, n)) {
            for (int signs = 0; signs < 1 << n; signs++) {
                long[] solution = levelled(set, signs);
                long bottom = solution[n];
                long top = solution[columns];
                if (bottom == 0 || top < 0) {
                    continue;
                }
                boolean isLess = bestTop < 0 || top * bestBottom < bestTop * bottom;
                if (isLess && reaches(rows, solution)) {
                    bestTop = top;
                    bestBottom = bottom;
                }
            }
        }
        return Frac.of(bestTop, bestBottom);
    }

    private boolean reaches(List<Integer> rows, long[] solution) {
        for (int r : rows) {
            long miss = tolds.get(r) * solution[columns + 1];
            for (int c = 0; c < columns; c++) {
                miss -= numbers.get(r)[c] * solution[c];
            }
            if (Math.abs(miss) > solution[columns]) {
                return false;
            }
        }
        return true;
    }

    /** Weights, level and their divisor (not below 0), if all rows of a set miss by the level. */
    private long[] levelled(List<Integer> set, int signs) {
        int n = columns + 1;
        long[] solution = new long[n + 1];
        for (int out = 0; out <= n; out++) {
            long[][] m = new long[n][n];
            for (int i = 0; i < n; i++) {
                for (int c = 0; c < columns; c++) {
                    m[i][c] = numbers.get(set.get(i))[c];
                }
                m[i][columns] = (signs >> i & 1) != 0 ? 1 : -1;
                if (out < n) {
                    m[i][out] = tolds.get(set.get(i));
                }
            }
            solution[out] = determinant(m);
        }
        if (solution[n] < 0) {
            for (int i = 0; i <= n; i++) {
                solution[i] = -solution[i];
            }
        }
        return solution;
    }

    static long determinant(long[][] m) {
        if (m.length == 1) {
            return m[0][0];
        }
        long all = 0;
        for (int c = 0; c < m.length; c++) {
            long[][] minor = new long[m.length - 1][m.length - 1];
            for (int i = 1; i < m.length; i++) {
                for (int j = 0, to = 0; j < m.length; j++) {
                    if (j != c) {
                        minor[i - 1][to++] = m[i][j];
                    }
                }
            }
            if (m[0][c] != 0) {
                all += (c % 2 == 0 ? 1 : -1) * m[0][c] * determinant(minor);
            }
        }
        return all;
    }

    /** Sums of products of the rows that are there, with the told column last. */
    private Frac[][] products() {
        long[][] sums = new long[columns + 1][columns + 1];
        for (int r : keptRows()) {
            for (int i = 0; i <= columns; i++) {
                for (int j = 0; j <= columns; j++) {
                    long a = i < columns ? numbers.get(r)[i] : tolds.get(r);
                    long b = j < columns ? numbers.get(r)[j] : tolds.get(r);
                    sums[i][j] += a * b;
                }
            }
        }
        Frac[][] p = new Frac[columns + 1][columns + 1];
        for (int i = 0; i <= columns; i++) {
            for (int j = 0; j <= columns; j++) {
                p[i][j] = Frac.of(sums[i][j]);
            }
        }
        return p;
    }

    static int[] signsOf(int pattern, int columns) {
        int[] signs = new int[columns];
        for (int c = 0; c < columns; c++) {
            signs[c] = pattern % 3 - 1;
            pattern /= 3;
        }
        return signs;
    }

    /** Where the cost stands still if the weights have these signs: it may be elsewhere. */
    private Frac[] stillWeights(Frac[][] p, int[] signs, Frac bar) {
        List<Integer> in = new ArrayList<>();
        for (int c = 0; c < columns; c++) {
            if (signs[c] != 0) {
                in.add(c);
            }
        }
        Frac[][] m = new Frac[in.size()][in.size()];
        Frac[] right = new Frac[in.size()];
        for (int i = 0; i < right.length; i++) {
            Frac held = bar.times(Frac.of(signs[in.get(i)], 2));
            right[i] = p[in.get(i)][columns].minus(held);
            for (int j = 0; j < right.length; j++) {
                m[i][j] = p[in.get(i)][in.get(j)];
            }
        }
        Frac[] some = solve(m, right);
        Frac[] w = new Frac[columns];
        for (int c = 0; c < columns; c++) {
            int place = in.indexOf(c);
            w[c] = place < 0 ? Frac.ZERO : some[place];
        }
        return w;
    }

    private Frac costOf(Frac[][] p, Frac[] w, Frac bar) {
        Frac all = p[columns][columns];
        for (int i = 0; i < columns; i++) {
            all = all.minus(Frac.of(2).times(w[i]).times(p[i][columns]));
            all = all.plus(bar.times(w[i].size()));
            for (int j = 0; j < columns; j++) {
                all = all.plus(w[i].times(w[j]).times(p[i][j]));
            }
        }
        return all;
    }

    /** The cheapest of all points that may be the one; null if not told. */
    Frac[] barred(Frac bar) {
        if (free() != columns) {
            return null;
        }
        return cheapest(products(), bar);
    }

    private Frac[] cheapest(Frac[][] p, Frac bar) {
        Frac[] best = null;
        Frac least = null;
        for (int pattern = 0; pattern < Math.pow(3, columns); pattern++) {
            Frac[] w = stillWeights(p, signsOf(pattern, columns), bar);
            Frac cost = costOf(p, w, bar);
            if (least == null || cost.compareTo(least) < 0) {
                least = cost;
                best = w;
            }
        }
        return best;
    }

    Frac cost(Frac bar) {
        Frac[] w = barred(bar);
        if (w == null) {
            return null;
        }
        List<Integer> rows = keptRows();
        Frac all = leftOver(matrix(rows, allColumns()), told(rows), w);
        for (Frac one : w) {
            all = all.plus(bar.times(one.size()));
        }
        return all;
    }

    /** Between neighbours of this set no weight begins or ends to be 0. */
    private TreeSet<Frac> breaks(Frac[][] p) {
        TreeSet<Frac> all = new TreeSet<>();
        for (int pattern = 0; pattern < Math.pow(3, columns); pattern++) {
            int[] signs = signsOf(pattern, columns);
            Frac[] at0 = stillWeights(p, signs, Frac.ZERO);
            Frac[] at1 = stillWeights(p, signs, Frac.ONE);
            for (int c = 0; c < columns; c++) {
                addRoot(all, at0[c], at1[c]);
                Frac drawn0 = drawn(p, at0, c);
                Frac drawn1 = drawn(p, at1, c);
                addRoot(all, drawn0, drawn1.minus(Frac.ONE));
                addRoot(all, drawn0, drawn1.plus(Frac.ONE));
            }
        }
        return all;
    }

    private Frac drawn(Frac[][] p, Frac[] w, int c) {
        Frac all = p[c][columns];
        for (int j = 0; j < columns; j++) {
            all = all.minus(w[j].times(p[c][j]));
        }
        return all.times(Frac.of(2));
    }

    private static void addRoot(TreeSet<Frac> all, Frac at0, Frac at1) {
        Frac fall = at0.minus(at1);
        if (!fall.isZero() && at0.over(fall).sign() > 0) {
            all.add(at0.over(fall));
        }
    }

    /** From the greatest down; null if not told. */
    List<Frac> corners() {
        if (free() != columns) {
            return null;
        }
        Frac[][] p = products();
        TreeSet<Frac> breaks = breaks(p);
        List<Frac> found = new ArrayList<>();
        for (Frac bar : breaks.descendingSet()) {
            Frac below = breaks.lower(bar) == null ? Frac.ZERO : breaks.lower(bar);
            Frac above = breaks.higher(bar) == null ? bar.plus(bar) : breaks.higher(bar);
            Frac[] here = cheapest(p, bar);
            Frac[] low = cheapest(p, bar.plus(below).over(Frac.of(2)));
            Frac[] high = cheapest(p, bar.plus(above).over(Frac.of(2)));
            boolean isCorner = false;
            for (int c = 0; c < columns; c++) {
                isCorner |= here[c].isZero() && (!low[c].isZero() || !high[c].isZero());
            }
            if (isCorner) {
                found.add(bar);
            }
        }
        return found;
    }
}
