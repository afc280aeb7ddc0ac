/**
 * A bench where one number is guessed from up to three others by weights, and no better weights
 * are left. Every answer is exact: all is held in whole numbers that stay far inside a long.
 *
 * <p>Columns that there are not are held as columns of zeros. A column of zeros gets weight 0
 * from the least squares with the least weights, so all sums can run over three columns always.
 */
public final class GuessBench {
    public static final int NONE = -1;

    private static final int MOST_COLUMNS = 3;
    private static final int MOST_ROWS = 24;
    private static final int MOST_NUMBER = 9;
    private static final int MOST_TOLD = 99;
    private static final int MOST_BAR = 50000;
    private static final int MOST_HALVED = 10;

    private final Table table;
    private final Pool pool;
    private final Picks picks;
    private final Squares squares;
    private final Squares part;
    private final long[] given;
    private final long[] solved;
    private final LeastSizes leastSizes;
    private final LeastLevel leastLevel;
    private final Bars bars;
    private final Ratios turns;
    private final Best bestFew;
    private final Best bestHalf;
    private boolean squaresKnown;
    private boolean poolKnown;
    private boolean sizesKnown;
    private boolean levelKnown;
    private boolean turnsKnown;
    private int halfKnown;

    public GuessBench() {
        table = new Table();
        pool = new Pool();
        picks = new Picks();
        squares = new Squares();
        part = new Squares();
        given = new long[MOST_COLUMNS];
        solved = new long[MOST_COLUMNS];
        leastSizes = new LeastSizes();
        leastLevel = new LeastLevel();
        bars = new Bars();
        turns = new Ratios();
        bestFew = new Best();
        bestHalf = new Best();
        halfKnown = NONE;
    }

    public boolean start(int columns) {
        if (columns < 1 || columns > MOST_COLUMNS) {
            return false;
        }
        table.clear(columns);
        forget();
        return true;
    }

    public int row(int told, int a, int b, int c) {
        int number = table.add(told, a, b, c);
        if (number != NONE) {
            forget();
        }
        return number;
    }

    public boolean set(int row, boolean there) {
        if (!table.has(row) || table.keeps(row) == there) {
            return false;
        }
        table.keep(row, there);
        forget();
        return true;
    }

    public int at(int row, int c) {
        if (!table.has(row)) {
            return 0;
        }
        if (c == NONE) {
            return table.tolds[row];
        }
        return table.hasColumn(c) ? table.number(row, c) : 0;
    }

    public boolean there(int row) {
        return table.keeps(row);
    }

    public int free() {
        return squaresNow().rank;
    }

    public long weight(int c, int what) {
        if (!table.hasColumn(c)) {
            return NONE;
        }
        Squares now = squaresNow();
        return Fractions.tell(now.tops[c], now.bottom(), what);
    }

    public long miss(int row, int what) {
        if (!table.has(row)) {
            return NONE;
        }
        Squares now = squaresNow();
        table.copyNumbers(row, given);
        long top = table.tolds[row] * now.bottom() - Squares.product(given, now.tops);
        return Fractions.tell(top, now.bottom(), what);
    }

    public long sum(int what) {
        Squares now = squaresNow();
        return Fractions.tell(now.leftTop(), now.bottom(), what);
    }

    public long pull(int row, int what) {
        if (!table.keeps(row)) {
            return NONE;
        }
        Squares now = squaresNow();
        table.copyNumbers(row, given);
        now.solveFor(given, solved);
        return Fractions.tell(Squares.product(given, solved), now.bottom(), what);
    }

    public long without(int row, int c, int what) {
        if (!table.keeps(row) || !table.hasColumn(c)) {
            return NONE;
        }
        part.clear();
        for (int r = 0; r < table.rows; r++) {
            if (r != row && table.kept[r]) {
                part.add(table, r);
            }
        }
        part.solve();
        return Fractions.tell(part.tops[c], part.bottom(), what);
    }

    public long far(int row, int c, int what) {
        if (!table.keeps(row) || !table.hasColumn(c) || !isWhole()) {
            return NONE;
        }
        Squares now = squaresNow();
        table.copyNumbers(row, given);
        now.solveFor(given, solved);
        // Both the weight and its rise per 1 have the same denominator, so it falls away;
        // a rise of 0 is refused by tell.
        return Fractions.tell(-now.tops[c], solved[c], what);
    }

    public long few(int many, int what) {
        if (many < 0 || many > table.columns) {
            return NONE;
        }
        Squares now = squaresNow();
        bestFew.clear();
        for (int mask = 0; mask < 1 << table.columns; mask++) {
            if (Integer.bitCount(mask) == many) {
                part.copyColumns(now, mask);
                part.solve();
                bestFew.offer(part.leftTop(), part.bottom(), mask);
            }
        }
        return bestFew.tell(what);
    }

    public long half(int many, int what) {
        if (table.keptRows > MOST_HALVED || many < 0 || many > table.keptRows) {
            return NONE;
        }
        if (halfKnown != many) {
            findHalf(many);
            halfKnown = many;
        }
        return bestHalf.tell(what);
    }

    public long sizes(int what) {
        if (!isWhole()) {
            return NONE;
        }
        LeastSizes now = sizesNow();
        return Fractions.tell(now.top, now.bottom, what);
    }

    public long sized(int c, int what) {
        if (!table.hasColumn(c) || !isWhole()) {
            return NONE;
        }
        LeastSizes now = sizesNow();
        return Fractions.tell(now.tops[c], now.bottom, what);
    }

    public long level(int what) {
        if (!isWhole()) {
            return NONE;
        }
        if (!levelKnown) {
            leastLevel.find(poolNow(), table.columns);
            levelKnown = true;
        }
        return Fractions.tell(leastLevel.top, leastLevel.bottom, what);
    }

    public long barred(int bar, int c, int what) {
        if (!isBar(bar) || !table.hasColumn(c) || !isWhole()) {
            return NONE;
        }
        if (!bars.find(squaresNow(), table.columns, bar)) {
            return NONE;
        }
        return Fractions.tell(bars.weightTop(c, bar), bars.weightBottom(), what);
    }

    public long cost(int bar, int what) {
        if (!isBar(bar) || !isWhole()) {
            return NONE;
        }
        if (!bars.find(squaresNow(), table.columns, bar)) {
            return NONE;
        }
        return Fractions.tell(bars.costTop(bar), bars.costBottom(), what);
    }

    public int corners() {
        return isWhole() ? turnsNow().size : NONE;
    }

    public long corner(int i, int what) {
        if (!isWhole()) {
            return NONE;
        }
        Ratios now = turnsNow();
        if (i < 0 || i >= now.size) {
            return NONE;
        }
        return Fractions.tell(now.tops[i], now.bottoms[i], what);
    }

    public int count(int what) {
        switch (what) {
            case 0:
                return table.columns;
            case 1:
                return table.rows;
            case 2:
                return table.keptRows;
            default:
                return NONE;
        }
    }

    private static boolean isBar(int bar) {
        return bar >= 0 && bar <= MOST_BAR;
    }

    private boolean isWhole() {
        return squaresNow().rank == table.columns;
    }

    /** What was found before holds no longer once a ROW comes, goes or is taken back. */
    private void forget() {
        squaresKnown = false;
        poolKnown = false;
        sizesKnown = false;
        levelKnown = false;
        turnsKnown = false;
        halfKnown = NONE;
    }

    private Squares squaresNow() {
        if (!squaresKnown) {
            squares.clear();
            for (int r = 0; r < table.rows; r++) {
                if (table.kept[r]) {
                    squares.add(table, r);
                }
            }
            squares.solve();
            squaresKnown = true;
        }
        return squares;
    }

    private Pool poolNow() {
        if (!poolKnown) {
            pool.fill(table);
            poolKnown = true;
        }
        return pool;
    }

    private LeastSizes sizesNow() {
        if (!sizesKnown) {
            leastSizes.find(poolNow(), picks, table.columns);
            sizesKnown = true;
        }
        return leastSizes;
    }

    private Ratios turnsNow() {
        if (!turnsKnown) {
            turns.size = 0;
            bars.collectTurns(squaresNow(), table.columns, turns);
            turnsKnown = true;
        }
        return turns;
    }

    private void findHalf(int many) {
        Pool now = poolNow();
        bestHalf.clear();
        boolean more = picks.begin(many, now.size);
        for (int turn = 0; more && turn < Picks.MOST; turn++) {
            int bits = 0;
            part.clear();
            for (int i = 0; i < many; i++) {
                int from = now.rowOf[picks.placeOf(i)];
                bits |= 1 << from;
                part.add(table, from);
            }
            part.solve();
            bestHalf.offer(part.leftTop(), part.bottom(), bits);
            more = picks.advance();
        }
    }

    /** Exact work on fractions that are held as a top and a bottom. */
    private static final class Fractions {
        /** Euclid needs no more than 92 steps on longs. */
        private static final int MOST_STEPS = 128;

        private Fractions() {
        }

        static long common(long one, long other) {
            long a = Math.abs(one);
            long b = Math.abs(other);
            for (int step = 0; b != 0 && step < MOST_STEPS; step++) {
                long rest = a % b;
                a = b;
                b = rest;
            }
            return a;
        }

        /** The part of top / bottom in lowest terms that is asked for. */
        static long tell(long top, long bottom, int what) {
            if (bottom == 0 || what < 0 || what > 1) {
                return NONE;
            }
            long divisor = common(top, bottom);
            if (divisor == 0) {
                return NONE;
            }
            if (bottom < 0) {
                divisor = -divisor;
            }
            return what == 0 ? top / divisor : bottom / divisor;
        }

        /**
         * Less than 0, 0 or more as a / b is less than, like or more than c / d; none is below 0.
         * Goes by whole parts and turned rests, since the products would not fit in a long.
         */
        static int order(long a, long b, long c, long d) {
            int sign = 1;
            for (int step = 0; b != 0 && d != 0 && step < MOST_STEPS; step++) {
                long wholeA = a / b;
                long wholeC = c / d;
                if (wholeA != wholeC) {
                    return wholeA < wholeC ? -sign : sign;
                }
                long restA = a - wholeA * b;
                long restC = c - wholeC * d;
                a = b;
                b = restA;
                c = d;
                d = restC;
                sign = -sign;
            }
            if (b == d) {
                return 0;
            }
            // A rest of 0, turned over, is greater than any number.
            return b == 0 ? sign : -sign;
        }
    }

    /** Fractions from the greatest down, each once. */
    private static final class Ratios {
        /** Each of the 26 patterns of signs gives at most one for each of its columns. */
        private static final int MOST = 54;

        final long[] tops = new long[MOST];
        final long[] bottoms = new long[MOST];
        int size;

        void insert(long top, long bottom) {
            int place = 0;
            while (place < size && Fractions.order(tops[place], bottoms[place], top, bottom) > 0) {
                place++;
            }
            boolean isHere = place < size && tops[place] == top && bottoms[place] == bottom;
            if (isHere || size >= MOST) {
                return;
            }
            for (int i = size; i > place; i--) {
                tops[i] = tops[i - 1];
                bottoms[i] = bottoms[i - 1];
            }
            tops[place] = top;
            bottoms[place] = bottom;
            size++;
        }
    }

    /** The least fraction that was offered, with its set; of like ones the first. */
    private static final class Best {
        private boolean isEmpty = true;
        private long top;
        private long bottom = 1;
        private long bits;

        void clear() {
            isEmpty = true;
        }

        void offer(long newTop, long newBottom, long newBits) {
            if (isEmpty || Fractions.order(newTop, newBottom, top, bottom) < 0) {
                isEmpty = false;
                top = newTop;
                bottom = newBottom;
                bits = newBits;
            }
        }

        long tell(int what) {
            if (isEmpty) {
                return NONE;
            }
            return what == 2 ? bits : Fractions.tell(top, bottom, what);
        }
    }

    /** The ROWS as they came; dropped ones stay, since they may be taken back. */
    private static final class Table {
        final int[] numbers = new int[MOST_ROWS * MOST_COLUMNS];
        final int[] tolds = new int[MOST_ROWS];
        final boolean[] kept = new boolean[MOST_ROWS];
        int columns = 1;
        int rows;
        int keptRows;

        void clear(int newColumns) {
            columns = newColumns;
            rows = 0;
            keptRows = 0;
        }

        boolean has(int row) {
            return row >= 0 && row < rows;
        }

        boolean hasColumn(int c) {
            return c >= 0 && c < columns;
        }

        boolean keeps(int row) {
            return has(row) && kept[row];
        }

        void keep(int row, boolean isKept) {
            kept[row] = isKept;
            keptRows += isKept ? 1 : -1;
        }

        int number(int row, int c) {
            return numbers[row * MOST_COLUMNS + c];
        }

        void copyNumbers(int row, long[] to) {
            for (int c = 0; c < MOST_COLUMNS; c++) {
                to[c] = number(row, c);
            }
        }

        /** The new ROW's number, or NONE. */
        int add(int told, int a, int b, int c) {
            int second = columns > 1 ? b : 0;
            int third = columns > 2 ? c : 0;
            boolean fits = isWithin(told, MOST_TOLD) && isWithin(a, MOST_NUMBER)
                    && isWithin(second, MOST_NUMBER) && isWithin(third, MOST_NUMBER);
            if (rows >= MOST_ROWS || !fits) {
                return NONE;
            }
            int from = rows * MOST_COLUMNS;
            numbers[from] = a;
            numbers[from + 1] = second;
            numbers[from + 2] = third;
            tolds[rows] = told;
            kept[rows] = true;
            rows++;
            keptRows++;
            return rows - 1;
        }

        private static boolean isWithin(int number, int most) {
            return number >= -most && number <= most;
        }
    }

    /**
     * The ROWS that are THERE, close together. Behind the last one stand two rows that tie the
     * third and the second column to 0: with them a choice of rows is always one of three columns.
     */
    private static final class Pool {
        static final int PLACES = MOST_ROWS + MOST_COLUMNS - 1;

        final int[] a = new int[PLACES];
        final int[] b = new int[PLACES];
        final int[] c = new int[PLACES];
        final int[] told = new int[PLACES];
        final int[] rowOf = new int[PLACES];
        int size;

        void fill(Table from) {
            size = 0;
            for (int r = 0; r < from.rows; r++) {
                if (from.kept[r]) {
                    put(size, from.number(r, 0), from.number(r, 1), from.number(r, 2));
                    told[size] = from.tolds[r];
                    rowOf[size] = r;
                    size++;
                }
            }
            put(size, 0, 0, 1);
            put(size + 1, 0, 1, 0);
            told[size] = 0;
            told[size + 1] = 0;
        }

        private void put(int place, int first, int second, int third) {
            a[place] = first;
            b[place] = second;
            c[place] = third;
        }
    }

    /** Choices of so many places of so many, places rising, in the order of their first difference. */
    private static final class Picks {
        /** Above the 2024 choices of 3 of 24, which are the most that are gone through. */
        static final int MOST = 10000;

        private final int[] places = new int[MOST_HALVED];
        private int many;
        private int of;

        /** False if there is no choice. */
        boolean begin(int newMany, int newOf) {
            if (newMany < 0 || newMany > newOf || newMany > places.length) {
                return false;
            }
            many = newMany;
            of = newOf;
            for (int i = 0; i < many; i++) {
                places[i] = i;
            }
            return true;
        }

        /** False if that was the last choice. */
        boolean advance() {
            for (int i = many - 1; i >= 0; i--) {
                if (places[i] < of - many + i) {
                    places[i]++;
                    for (int j = i + 1; j < many; j++) {
                        places[j] = places[j - 1] + 1;
                    }
                    return true;
                }
            }
            return false;
        }

        /** The place that was chosen as number i; behind the last one the pool's ties. */
        int placeOf(int i) {
            return i < many ? places[i] : of + i - many;
        }
    }

    /**
     * Least squares from sums of products alone. The sums of products' own numbers (eigenvalues)
     * are none below 0, so the rank is the last of their symmetric sums that is not 0; and by
     * Cayley and Hamilton these sums invert on the span of the rows, which gives the weights
     * with the least squares at any rank.
     */
    private static final class Squares {
        final long[] products = new long[MOST_COLUMNS * MOST_COLUMNS];
        final long[] right = new long[MOST_COLUMNS];
        final long[] tops = new long[MOST_COLUMNS];
        private final long[] symmetric = new long[MOST_COLUMNS + 1];
        long toldSquares;
        int rank;

        static long product(long[] one, long[] other) {
            return one[0] * other[0] + one[1] * other[1] + one[2] * other[2];
        }

        void clear() {
            for (int i = 0; i < products.length; i++) {
                products[i] = 0;
            }
            for (int c = 0; c < MOST_COLUMNS; c++) {
                right[c] = 0;
            }
            toldSquares = 0;
        }

        void add(Table from, int row) {
            long told = from.tolds[row];
            for (int i = 0; i < MOST_COLUMNS; i++) {
                long number = from.number(row, i);
                for (int j = 0; j < MOST_COLUMNS; j++) {
                    products[i * MOST_COLUMNS + j] += number * from.number(row, j);
                }
                right[i] += number * told;
            }
            toldSquares += told * told;
        }

        /** As from, but with all columns outside of the mask turned to zeros. */
        void copyColumns(Squares from, int mask) {
            for (int i = 0; i < MOST_COLUMNS; i++) {
                boolean isIn = (mask >> i & 1) != 0;
                for (int j = 0; j < MOST_COLUMNS; j++) {
                    int place = i * MOST_COLUMNS + j;
                    products[place] = isIn && (mask >> j & 1) != 0 ? from.products[place] : 0;
                }
                right[i] = isIn ? from.right[i] : 0;
            }
            toldSquares = from.toldSquares;
        }

        void solve() {
            measure();
            solveFor(right, tops);
        }

        /** Finds the symmetric sums and the rank. */
        void measure() {
            long[] p = products;
            long low = p[4] * p[8] - p[5] * p[7];
            symmetric[0] = 1;
            symmetric[1] = p[0] + p[4] + p[8];
            symmetric[2] = low + p[0] * p[8] - p[2] * p[6] + p[0] * p[4] - p[1] * p[3];
            symmetric[3] = p[0] * low - p[1] * (p[3] * p[8] - p[5] * p[6])
                    + p[2] * (p[3] * p[7] - p[4] * p[6]);
            rank = MOST_COLUMNS;
            while (rank > 0 && symmetric[rank] == 0) {
                rank--;
            }
        }

        /** The weights over bottom() whose products with the sums are from (in the rows' span). */
        void solveFor(long[] from, long[] to) {
            for (int i = 0; i < MOST_COLUMNS; i++) {
                to[i] = rank == 0 ? 0 : from[i];
            }
            for (int step = 1; step < rank; step++) {
                long a = to[0];
                long b = to[1];
                long c = to[2];
                for (int i = 0; i < MOST_COLUMNS; i++) {
                    to[i] = symmetric[step] * from[i] - rowProduct(i, a, b, c);
                }
            }
        }

        long rowProduct(int i, long a, long b, long c) {
            int from = i * MOST_COLUMNS;
            return products[from] * a + products[from + 1] * b + products[from + 2] * c;
        }

        long bottom() {
            return symmetric[rank];
        }

        /** The sum of misses squared, over bottom(). */
        long leftTop() {
            return toldSquares * bottom() - product(right, tops);
        }
    }

    /** The least sum of misses' sizes, by trying each set of rows that may have no miss. */
    private static final class LeastSizes {
        final long[] tops = new long[MOST_COLUMNS];
        long top;
        long bottom;
        private long a;
        private long b;
        private long c;
        private long divisor;

        void find(Pool pool, Picks picks, int columns) {
            top = 0;
            bottom = 0;
            boolean more = picks.begin(columns, pool.size);
            for (int turn = 0; more && turn < Picks.MOST; turn++) {
                solveExactly(pool, picks.placeOf(0), picks.placeOf(1), picks.placeOf(2));
                if (divisor != 0) {
                    takeIfLess(pool);
                }
                more = picks.advance();
            }
        }

        /** The weights a, b, c over the divisor with which three rows have no miss. */
        private void solveExactly(Pool p, int i, int j, int k) {
            long jkA = p.b[j] * p.c[k] - p.c[j] * p.b[k];
            long jkB = p.c[j] * p.a[k] - p.a[j] * p.c[k];
            long jkC = p.a[j] * p.b[k] - p.b[j] * p.a[k];
            divisor = p.a[i] * jkA + p.b[i] * jkB + p.c[i] * jkC;
            if (divisor == 0) {
                return;
            }
            long first = p.told[i];
            long second = p.told[j];
            long third = p.told[k];
            a = first * jkA + second * (p.b[k] * p.c[i] - p.c[k] * p.b[i])
                    + third * (p.b[i] * p.c[j] - p.c[i] * p.b[j]);
            b = first * jkB + second * (p.c[k] * p.a[i] - p.a[k] * p.c[i])
                    + third * (p.c[i] * p.a[j] - p.a[i] * p.c[j]);
            c = first * jkC + second * (p.a[k] * p.b[i] - p.b[k] * p.a[i])
                    + third * (p.a[i] * p.b[j] - p.b[i] * p.a[j]);
        }

        /** Sums stay below 10^8 and divisors below 10^4, so their products fit. */
        private void takeIfLess(Pool p) {
            long sign = divisor < 0 ? -1 : 1;
            long newBottom = sign * divisor;
            long newTop = sumBelow(p, top * newBottom);
            if (newTop != NONE) {
                top = newTop;
                bottom = newBottom;
                tops[0] = sign * a;
                tops[1] = sign * b;
                tops[2] = sign * c;
            }
        }

        /** The sum of the sizes; NONE as soon as it, times the best bottom, is not below a bound. */
        private long sumBelow(Pool p, long bound) {
            int[] firsts = p.a;
            int[] seconds = p.b;
            int[] thirds = p.c;
            int[] tolds = p.told;
            long first = a;
            long second = b;
            long third = c;
            long times = divisor;
            long best = bottom;
            long all = 0;
            for (int r = 0; r < p.size; r++) {
                all += Math.abs(tolds[r] * times - firsts[r] * first - seconds[r] * second
                        - thirds[r] * third);
                if (best != 0 && all * best >= bound) {
                    return NONE;
                }
            }
            return all;
        }
    }

    /**
     * The least greatest miss. No weights can help where rows, added up with factors, cancel out:
     * then the tolds, added up so, over the sum of the factors' sizes is a floor. The highest
     * floor is reached, and one row more than there are columns is enough for it. The factors of
     * four rows are the volumes (determinants) of the other three.
     */
    private static final class LeastLevel {
        /** So many threes of the pool's places there are. */
        private static final int THREES = Pool.PLACES * (Pool.PLACES - 1) * (Pool.PLACES - 2) / 6;

        private final int[] volumes = new int[THREES];
        long top;
        long bottom;

        void find(Pool pool, int columns) {
            int ties = MOST_COLUMNS - columns;
            int places = pool.size + ties;
            measure(pool, places);
            top = 0;
            bottom = 1;
            // Fours without all of the ties have volumes of 0 alone.
            int leastL = ties > 0 ? places - 1 : 3;
            for (int l = leastL; l < places; l++) {
                int leastK = ties > 1 ? l - 1 : 2;
                for (int k = leastK; k < l; k++) {
                    for (int j = 1; j < k; j++) {
                        raise(pool.told, j, k, l);
                    }
                }
            }
        }

        private static int twosBelow(int place) {
            return place * (place - 1) / 2;
        }

        private static int threesBelow(int place) {
            return place * (place - 1) * (place - 2) / 6;
        }

        /** The volumes of i < j < k stand in the order of k, then j, then i. */
        private void measure(Pool p, int places) {
            int to = 0;
            for (int k = 2; k < places; k++) {
                for (int j = 1; j < k; j++) {
                    int crossA = p.b[j] * p.c[k] - p.c[j] * p.b[k];
                    int crossB = p.c[j] * p.a[k] - p.a[j] * p.c[k];
                    int crossC = p.a[j] * p.b[k] - p.b[j] * p.a[k];
                    for (int i = 0; i < j; i++) {
                        volumes[to] = p.a[i] * crossA + p.b[i] * crossB + p.c[i] * crossC;
                        to++;
                    }
                }
            }
        }

        /** Goes through all fours with these as their last three. */
        private void raise(int[] told, int j, int k, int l) {
            int[] volume = volumes;
            int ijk = threesBelow(k) + twosBelow(j);
            int ijl = threesBelow(l) + twosBelow(j);
            int ikl = threesBelow(l) + twosBelow(k);
            int factorI = volume[ikl + j];
            int sizeI = Math.abs(factorI);
            int toldJ = told[j];
            int toldK = told[k];
            int toldL = told[l];
            for (int i = 0; i < j; i++) {
                int factorJ = volume[ikl + i];
                int factorK = volume[ijl + i];
                int factorL = volume[ijk + i];
                long newTop = Math.abs(told[i] * factorI - toldJ * factorJ + toldK * factorK
                        - toldL * factorL);
                long newBottom = sizeI + Math.abs(factorJ) + Math.abs(factorK) + Math.abs(factorL);
                // Fours whose factors are all 0 have a top of 0 too, so that they never raise it.
                if (newTop * bottom > top * newBottom) {
                    top = newTop;
                    bottom = newBottom;
                }
            }
        }
    }

    /**
     * Least squares held back by a bar. With each pattern of the weights' signs the weights are
     * straight lines over the bar; the pattern is the right one where its conditions hold: the
     * weights have these signs, and the columns at 0 draw no more than the bar holds.
     */
    private static final class Bars {
        private static final int MOST_CONDITIONS = 2 * MOST_COLUMNS;

        private final Squares part = new Squares();
        private final long[] signs = new long[MOST_COLUMNS];
        private final long[] doubled = new long[MOST_COLUMNS];
        private final long[] bases = new long[MOST_COLUMNS];
        private final long[] slopes = new long[MOST_COLUMNS];
        private final long[] fixed = new long[MOST_CONDITIONS];
        private final long[] rises = new long[MOST_CONDITIONS];
        private final boolean[] strict = new boolean[MOST_CONDITIONS];
        private int conditions;

        /** Lays out the one pattern that is right at a bar. */
        boolean find(Squares whole, int columns, int bar) {
            int patterns = patternsOf(columns);
            for (int pattern = 0; pattern < patterns; pattern++) {
                if (lay(whole, pattern) && holdsAt(bar)) {
                    return true;
                }
            }
            return false;
        }

        long weightTop(int c, int bar) {
            return bases[c] - slopes[c] * bar;
        }

        long weightBottom() {
            return 2 * part.bottom();
        }

        /**
         * With the right weights the cost is the tolds' squares less half of the weights times
         * what they are drawn by (twice the right sides, less the bar).
         */
        long costTop(int bar) {
            long saved = 0;
            for (int c = 0; c < MOST_COLUMNS; c++) {
                saved += weightTop(c, bar) * (doubled[c] - signs[c] * bar);
            }
            return 4 * part.bottom() * part.toldSquares - saved;
        }

        long costBottom() {
            return 4 * part.bottom();
        }

        /** The bars above 0 where a weight of the right pattern runs into 0 from one side. */
        void collectTurns(Squares whole, int columns, Ratios to) {
            int patterns = patternsOf(columns);
            for (int pattern = 0; pattern < patterns; pattern++) {
                if (lay(whole, pattern)) {
                    for (int c = 0; c < columns; c++) {
                        collectTurn(c, to);
                    }
                }
            }
        }

        private void collectTurn(int c, Ratios to) {
            boolean isAboveZero = bases[c] > 0 && slopes[c] > 0 || bases[c] < 0 && slopes[c] < 0;
            if (signs[c] == 0 || !isAboveZero) {
                return;
            }
            long top = Fractions.tell(bases[c], slopes[c], 0);
            long bottom = Fractions.tell(bases[c], slopes[c], 1);
            if (holdsBeside(top, bottom, -1) || holdsBeside(top, bottom, 1)) {
                to.insert(top, bottom);
            }
        }

        private static int patternsOf(int columns) {
            int patterns = 1;
            for (int c = 0; c < columns; c++) {
                patterns *= 3;
            }
            return patterns;
        }

        /** Reads a pattern (base 3: 0 none, 1 above, 2 below 0) and lays out lines and conditions. */
        private boolean lay(Squares whole, int pattern) {
            int mask = 0;
            int rest = pattern;
            for (int c = 0; c < MOST_COLUMNS; c++) {
                int digit = rest % 3;
                rest /= 3;
                signs[c] = digit == 2 ? -1 : digit;
                mask |= digit == 0 ? 0 : 1 << c;
                doubled[c] = digit == 0 ? 0 : 2 * whole.right[c];
            }
            part.copyColumns(whole, mask);
            part.measure();
            if (part.rank != Integer.bitCount(mask)) {
                return false;
            }
            part.solveFor(doubled, bases);
            part.solveFor(signs, slopes);
            conditions = 0;
            for (int c = 0; c < MOST_COLUMNS; c++) {
                if (signs[c] == 0) {
                    holdBack(whole, c);
                } else {
                    addCondition(signs[c] * bases[c], -signs[c] * slopes[c], true);
                }
            }
            return true;
        }

        /** A column at 0 is drawn by drawn + bar * drawnMore, over the bottom, either way. */
        private void holdBack(Squares whole, int c) {
            long bottom = part.bottom();
            long drawn = 2 * whole.right[c] * bottom
                    - whole.rowProduct(c, bases[0], bases[1], bases[2]);
            long drawnMore = whole.rowProduct(c, slopes[0], slopes[1], slopes[2]);
            addCondition(-drawn, bottom - drawnMore, false);
            addCondition(drawn, bottom + drawnMore, false);
        }

        private void addCondition(long base, long rise, boolean isStrict) {
            if (conditions < MOST_CONDITIONS) {
                fixed[conditions] = base;
                rises[conditions] = rise;
                strict[conditions] = isStrict;
                conditions++;
            }
        }

        private boolean holdsAt(int bar) {
            for (int i = 0; i < conditions; i++) {
                long value = fixed[i] + rises[i] * bar;
                if (value < 0 || value == 0 && strict[i]) {
                    return false;
                }
            }
            return true;
        }

        /**
         * Whether the pattern is right for all bars a little above (1) or below (-1) top / bottom.
         * A base is below 2 * 10^11 and a rise below 2 * 10^7, so the products fit.
         */
        private boolean holdsBeside(long top, long bottom, int side) {
            for (int i = 0; i < conditions; i++) {
                long value = fixed[i] * bottom + rises[i] * top;
                if (value == 0) {
                    value = rises[i] * side;
                }
                if (value < 0 || value == 0 && strict[i]) {
                    return false;
                }
            }
            return true;
        }
    }
}
