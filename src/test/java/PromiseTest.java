/** Each promise of the document by hand: ordinary inputs, the edges that it names, wrong inputs. */
public final class PromiseTest {
    private static final int LEAST = Integer.MIN_VALUE;
    private static final int GREATEST = Integer.MAX_VALUE;
    private static final int[] WRONG = {LEAST, -2, -1, 3, 4, 24, 25, GREATEST};

    private static int wrong = 0;
    private static String promise = "";

    public static void main(String[] args) {
        newObject();
        starting();
        rows();
        setting();
        numbers();
        being();
        freedom();
        weights();
        misses();
        sums();
        pulls();
        leavingOut();
        farness();
        fewness();
        halves();
        leastSizes();
        sizedWeights();
        levels();
        bars();
        costs();
        corners();
        cornersOfThree();
        cornersAtOnce();
        counts();
        System.out.println(wrong == 0 ? "all answers are as due" : wrong + " answers are not as due");
        if (wrong != 0) {
            System.exit(1);
        }
    }

    private static void due(String call, long got, long want) {
        if (got != want) {
            wrong++;
            System.out.println(promise + ": " + call + " answered " + got + ", due is " + want);
        }
    }

    private static void due(String call, boolean got, boolean want) {
        due(call, got ? 1 : 0, want ? 1 : 0);
    }

    private static void due(String call, long top, long bottom, long wantTop, long wantBottom) {
        due(call + " top", top, wantTop);
        due(call + " bottom", bottom, wantBottom);
    }

    /** Three rows of one column: w = 31/14. */
    private static GuessBench one() {
        GuessBench x = new GuessBench();
        x.row(2, 1, 0, 0);
        x.row(4, 2, 0, 0);
        x.row(7, 3, 0, 0);
        return x;
    }

    /** Three rows of two columns: w = 4/3, 7/3. */
    private static GuessBench two() {
        GuessBench x = new GuessBench();
        x.start(2);
        x.row(1, 1, 0, 0);
        x.row(2, 0, 1, 0);
        x.row(4, 1, 1, 0);
        return x;
    }

    /** Three columns of which each has a row of its own. */
    private static GuessBench three(int a, int b, int c) {
        GuessBench x = new GuessBench();
        x.start(3);
        x.row(a, 1, 0, 0);
        x.row(b, 0, 1, 0);
        x.row(c, 0, 0, 1);
        return x;
    }

    /** Two columns that are the same: FREE is 1. */
    private static GuessBench same() {
        GuessBench x = new GuessBench();
        x.start(2);
        x.row(2, 1, 1, 0);
        x.row(4, 2, 2, 0);
        return x;
    }

    private static void newObject() {
        promise = "promise 1";
        GuessBench x = new GuessBench();
        due("count 0", x.count(0), 1);
        due("count 1", x.count(1), 0);
        due("count 2", x.count(2), 0);
        due("free", x.free(), 0);
        due("weight", x.weight(0, 0), x.weight(0, 1), 0, 1);
        due("weight 1", x.weight(1, 0), -1);
        due("sum", x.sum(0), x.sum(1), 0, 1);
        due("half", new GuessBench().half(0, 0), new GuessBench().half(0, 1), 0, 1);
        due("half's set", new GuessBench().half(0, 2), 0);
        due("few", new GuessBench().few(1, 0), new GuessBench().few(1, 1), 0, 1);
        due("few's set", new GuessBench().few(1, 2), 1);
        due("sized", new GuessBench().sized(0, 0), -1);
        due("cost", new GuessBench().cost(0, 0), -1);
        due("corner", new GuessBench().corner(0, 0), -1);
        due("NONE", GuessBench.NONE, -1);
        due("row", x.row(5, 1, 0, 0), 0);
        due("weight after", x.weight(0, 0), 5);
        due("another's count", new GuessBench().count(1), 0);
    }

    private static void starting() {
        promise = "promise 2";
        GuessBench x = two();
        for (int columns : new int[] {LEAST, -1, 0, 4, 5, GREATEST}) {
            due("start " + columns, x.start(columns), false);
        }
        due("columns stay", x.count(0), 2);
        due("rows stay", x.count(1), 3);
        due("weights stay", x.weight(1, 0), 7);
        for (int columns = 1; columns <= 3; columns++) {
            due("start " + columns, x.start(columns), true);
            due("columns", x.count(0), columns);
            due("rows", x.count(1), 0);
            due("there", x.count(2), 0);
            due("there 0", x.there(0), false);
            due("free", x.free(), 0);
            due("first row", x.row(3, 1, 1, 1), 0);
            due("free", x.free(), 1);
        }
        x.start(3);
        due("start of the same", x.start(3), true);
        due("rows", x.count(1), 0);
        due("told", x.at(0, -1), 0);
    }

    private static void rows() {
        promise = "promise 3";
        GuessBench x = new GuessBench();
        x.start(1);
        due("others don't matter", x.row(99, 9, 10, GREATEST), 0);
        due("others don't matter", x.row(-99, -9, LEAST, -10), 1);
        due("a above", x.row(0, 10, 0, 0), -1);
        due("a below", x.row(0, -10, 0, 0), -1);
        x.start(2);
        due("c does not matter", x.row(0, 0, 9, 10), 0);
        due("b above", x.row(0, 0, 10, 0), -1);
        due("b below", x.row(0, 0, -10, 0), -1);
        x.start(3);
        due("c above", x.row(0, 0, 0, 10), -1);
        due("c below", x.row(0, 0, 0, -10), -1);
        due("told above", x.row(100, 0, 0, 0), -1);
        due("told below", x.row(-100, 0, 0, 0), -1);
        due("told least", x.row(LEAST, 0, 0, 0), -1);
        due("a least", x.row(0, LEAST, 0, 0), -1);
        due("refused rows don't count", x.count(1), 0);
        for (int r = 0; r < 24; r++) {
            due("row", x.row(r, 9, -9, 9), r);
            due("there", x.there(r), true);
        }
        due("row 24", x.row(1, 1, 1, 1), -1);
        x.set(3, false);
        due("a dropped row keeps its place", x.row(1, 1, 1, 1), -1);
        due("rows", x.count(1), 24);
        x.start(1);
        due("a new row is there after a start", x.row(1, 1, 1, 1), 0);
        x.set(0, false);
        x.start(1);
        x.row(1, 1, 1, 1);
        due("also where a dropped one was", x.there(0), true);
    }

    private static void setting() {
        promise = "promise 4";
        GuessBench x = one();
        due("there already", x.set(2, true), false);
        due("drop", x.set(2, false), true);
        due("dropped already", x.set(2, false), false);
        due("weight without it", x.weight(0, 0), 2);
        due("take back", x.set(2, true), true);
        due("weight with it", x.weight(0, 0), 31);
        for (int row : WRONG) {
            due("set " + row, x.set(row, false), false);
            due("set " + row, x.set(row, true), false);
        }
        due("there", x.count(2), 3);
    }

    private static void numbers() {
        promise = "promise 5";
        GuessBench x = new GuessBench();
        x.start(2);
        x.row(-99, 9, -8, 7);
        x.row(5, 1, 2, 3);
        due("at 0 0", x.at(0, 0), 9);
        due("at 0 1", x.at(0, 1), -8);
        due("a column that there is not", x.at(0, 2), 0);
        due("told", x.at(0, GuessBench.NONE), -99);
        due("told", x.at(1, -1), 5);
        x.set(1, false);
        due("also of a dropped row", x.at(1, 1), 2);
        due("also of a dropped row", x.at(1, -1), 5);
        for (int row : new int[] {LEAST, -1, 2, 24, GREATEST}) {
            due("at " + row, x.at(row, 0), 0);
            due("told of " + row, x.at(row, -1), 0);
        }
        for (int c : new int[] {LEAST, -2, 2, 3, GREATEST}) {
            due("at column " + c, x.at(0, c), 0);
        }
    }

    private static void being() {
        promise = "promise 6";
        GuessBench x = one();
        due("there 0", x.there(0), true);
        x.set(0, false);
        due("dropped", x.there(0), false);
        due("others", x.there(1), true);
        x.set(0, true);
        due("taken back", x.there(0), true);
        for (int row : WRONG) {
            due("there " + row, x.there(row), false);
        }
    }

    private static void freedom() {
        promise = "promise 7";
        GuessBench x = new GuessBench();
        x.start(3);
        due("no rows", x.free(), 0);
        x.row(5, 0, 0, 0);
        due("zeros", x.free(), 0);
        x.row(5, 1, 2, 3);
        due("one", x.free(), 1);
        x.row(5, -2, -4, -6);
        due("a multiple", x.free(), 1);
        x.row(5, 0, 1, 0);
        due("two", x.free(), 2);
        x.row(5, 1, 3, 3);
        due("a sum", x.free(), 2);
        x.row(5, 0, 0, 1);
        due("three", x.free(), 3);
        x.set(3, false);
        x.set(4, false);
        due("dropped", x.free(), 2);
        due("two", two().free(), 2);
        due("same", same().free(), 1);
    }

    private static void weights() {
        promise = "promise 8";
        GuessBench x = one();
        due("weight", x.weight(0, 0), x.weight(0, 1), 31, 14);
        x = two();
        due("weight 0", x.weight(0, 0), x.weight(0, 1), 4, 3);
        due("weight 1", x.weight(1, 0), x.weight(1, 1), 7, 3);
        for (int what : new int[] {LEAST, -1, 2, 3, GREATEST}) {
            due("what " + what, x.weight(0, what), -1);
        }
        for (int c : new int[] {LEAST, -1, 2, 3, GREATEST}) {
            due("column " + c, x.weight(c, 0), x.weight(c, 1), -1, -1);
        }
        x = same();
        due("the least of several", x.weight(0, 0), x.weight(0, 1), 1, 1);
        due("the least of several", x.weight(1, 0), x.weight(1, 1), 1, 1);
        x.start(3);
        x.row(3, 1, 0, 1);
        x.row(5, 0, 1, 1);
        due("two free of three", x.weight(0, 0), x.weight(0, 1), 1, 3);
        due("two free of three", x.weight(1, 0), x.weight(1, 1), 7, 3);
        due("two free of three", x.weight(2, 0), x.weight(2, 1), 8, 3);
        x.start(3);
        x.row(14, 1, 2, 3);
        due("one free of three", x.weight(2, 0), x.weight(2, 1), 3, 1);
        x.set(0, false);
        due("no rows there", x.weight(2, 0), x.weight(2, 1), 0, 1);
        x = new GuessBench();
        x.row(-3, 6, 0, 0);
        due("lowest terms below 0", x.weight(0, 0), x.weight(0, 1), -1, 2);
    }

    private static void misses() {
        promise = "promise 9";
        GuessBench x = one();
        due("miss 0", x.miss(0, 0), x.miss(0, 1), -3, 14);
        due("miss 2", x.miss(2, 0), x.miss(2, 1), 5, 14);
        x.set(2, false);
        due("of a dropped row", x.miss(2, 0), x.miss(2, 1), 1, 1);
        due("of 0", x.miss(0, 0), x.miss(0, 1), 0, 1);
        x.set(0, false);
        x.set(1, false);
        due("without rows", x.miss(2, 0), x.miss(2, 1), 7, 1);
        for (int row : WRONG) {
            due("row " + row, x.miss(row, 0), -1);
        }
        due("what 2", x.miss(0, 2), -1);
        due("what -1", x.miss(0, -1), -1);
    }

    private static void sums() {
        promise = "promise 10";
        due("one", one().sum(0), one().sum(1), 5, 14);
        due("two", two().sum(0), two().sum(1), 1, 3);
        due("same", same().sum(0), same().sum(1), 0, 1);
        due("what 2", one().sum(2), -1);
        due("what -1", one().sum(-1), -1);
        GuessBench x = new GuessBench();
        x.start(3);
        x.row(5, 0, 0, 0);
        due("zeros", x.sum(0), x.sum(1), 25, 1);
        x.set(0, false);
        due("no rows there", x.sum(0), x.sum(1), 0, 1);
    }

    private static void pulls() {
        promise = "promise 11";
        GuessBench x = one();
        due("pull 0", x.pull(0, 0), x.pull(0, 1), 1, 14);
        due("pull 1", x.pull(1, 0), x.pull(1, 1), 2, 7);
        due("pull 2", x.pull(2, 0), x.pull(2, 1), 9, 14);
        due("two", two().pull(1, 0), two().pull(1, 1), 2, 3);
        due("not free", same().pull(1, 0), same().pull(1, 1), 4, 5);
        x.set(1, false);
        due("dropped", x.pull(1, 0), x.pull(1, 1), -1, -1);
        for (int row : WRONG) {
            due("row " + row, x.pull(row, 0), -1);
        }
        due("what 2", x.pull(0, 2), -1);
        due("what -1", x.pull(0, -1), -1);
        x.start(2);
        x.row(4, 0, 0, 7);
        due("zeros", x.pull(0, 0), x.pull(0, 1), 0, 1);
        x.row(4, 1, 0, 0);
        due("alone", x.pull(1, 0), x.pull(1, 1), 1, 1);
    }

    private static void leavingOut() {
        promise = "promise 12";
        GuessBench x = one();
        due("without 0", x.without(0, 0, 0), x.without(0, 0, 1), 29, 13);
        due("without 2", x.without(2, 0, 0), x.without(2, 0, 1), 2, 1);
        due("it stays", x.count(2), 3);
        due("weights stay", x.weight(0, 0), 31);
        due("column 1", x.without(0, 1, 0), -1);
        due("column -1", x.without(0, -1, 0), -1);
        due("what 2", x.without(0, 0, 2), -1);
        due("what -1", x.without(0, 0, -1), -1);
        x.set(1, false);
        due("dropped", x.without(1, 0, 0), x.without(1, 0, 1), -1, -1);
        due("without two", x.without(2, 0, 0), x.without(2, 0, 1), 2, 1);
        for (int row : WRONG) {
            due("row " + row, x.without(row, 0, 0), -1);
        }
        x.set(2, false);
        due("the last one", x.without(0, 0, 0), x.without(0, 0, 1), 0, 1);
        x = two();
        x.set(2, false);
        x.row(8, 2, 2, 0);
        due("less free", x.without(0, 0, 0), x.without(0, 0, 1), 2, 1);
        x.set(1, false);
        due("least of several", x.without(0, 0, 0), x.without(0, 0, 1), 2, 1);
        due("least of several", x.without(0, 1, 0), x.without(0, 1, 1), 2, 1);
    }

    private static void farness() {
        promise = "promise 13";
        GuessBench x = one();
        due("far 0", x.far(0, 0, 0), x.far(0, 0, 1), -31, 1);
        due("far 2", x.far(2, 0, 0), x.far(2, 0, 1), -31, 3);
        x = two();
        due("far 0 0", x.far(0, 0, 0), x.far(0, 0, 1), -2, 1);
        due("far 1 0", x.far(1, 0, 0), x.far(1, 0, 1), 4, 1);
        due("far 2 1", x.far(2, 1, 0), x.far(2, 1, 1), -7, 1);
        due("column 2", x.far(0, 2, 0), -1);
        due("column -1", x.far(0, -1, 0), -1);
        due("what 2", x.far(0, 0, 2), -1);
        due("what -1", x.far(0, 0, -1), -1);
        for (int row : WRONG) {
            due("row " + row, x.far(row, 0, 0), -1);
        }
        x.set(2, false);
        due("dropped", x.far(2, 0, 0), -1);
        due("does not hang on it", x.far(0, 1, 0), x.far(0, 1, 1), -1, -1);
        x.set(2, true);
        x.row(9, 0, 0, 0);
        due("zeros", x.far(3, 0, 0), x.far(3, 0, 1), -1, -1);
        due("not free", same().far(0, 0, 0), same().far(0, 0, 1), -1, -1);
        x.start(1);
        x.row(0, 3, 0, 0);
        due("0 already", x.far(0, 0, 0), x.far(0, 0, 1), 0, 1);
        x.row(0, 0, 0, 0);
        due("0 already, but does not hang on it", x.far(1, 0, 0), x.far(1, 0, 1), -1, -1);
    }

    private static void fewness() {
        promise = "promise 14";
        GuessBench x = two();
        due("none", x.few(0, 0), x.few(0, 1), 21, 1);
        due("none", x.few(0, 2), 0);
        due("one", x.few(1, 0), x.few(1, 1), 3, 1);
        due("one", x.few(1, 2), 2);
        due("all", x.few(2, 0), x.few(2, 1), 1, 3);
        due("all", x.few(2, 2), 3);
        due("more", x.few(3, 0), -1);
        due("more, the set", x.few(3, 2), -1);
        due("less", x.few(-1, 2), -1);
        due("least", x.few(LEAST, 0), -1);
        due("greatest", x.few(GREATEST, 0), -1);
        due("what 3", x.few(1, 3), -1);
        due("what -1", x.few(1, -1), -1);
        x = same();
        due("like ones: least as bits", x.few(1, 2), 1);
        x = three(1, 5, 5);
        due("like ones: least as bits", x.few(1, 2), 2);
        due("two of three", x.few(2, 0), x.few(2, 1), 1, 1);
        due("two of three", x.few(2, 2), 6);
        x.start(3);
        due("without rows", x.few(2, 0), x.few(2, 1), 0, 1);
        due("without rows", x.few(2, 2), 3);
    }

    private static void halves() {
        promise = "promise 15";
        GuessBench x = one();
        due("none", x.half(0, 0), x.half(0, 1), 0, 1);
        due("none", x.half(0, 2), 0);
        due("one", x.half(1, 2), 1);
        due("two", x.half(2, 2), 3);
        due("all", x.half(3, 0), x.half(3, 1), 5, 14);
        due("all", x.half(3, 2), 7);
        due("more", x.half(4, 2), -1);
        due("less", x.half(-1, 2), -1);
        due("what 3", x.half(1, 3), -1);
        due("what -1", x.half(1, -1), -1);
        x.set(0, false);
        due("of those there", x.half(1, 2), 2);
        due("of those there", x.half(2, 0), x.half(2, 1), 4, 13);
        due("of those there", x.half(2, 2), 6);
        due("as many as there", x.half(3, 2), -1);
        x.start(1);
        due("without rows", x.half(0, 0), x.half(0, 1), 0, 1);
        // Rows 0 and 3 are alike, as 1 and 2 are: the first by the first different row is 0 and 3.
        x.row(1, 1, 0, 0);
        x.row(2, 1, 0, 0);
        x.row(2, 1, 0, 0);
        x.row(1, 1, 0, 0);
        due("the first of several", x.half(2, 2), 9);
        for (int r = 4; r < 10; r++) {
            x.row(10 * r, 1, 0, 0);
        }
        due("ten", x.half(4, 0), x.half(4, 1), 1, 1);
        due("ten", x.half(4, 2), 15);
        due("few between", x.few(0, 2), 0);
        due("ten still", x.half(4, 2), 15);
        x.row(99, 1, 0, 0);
        due("eleven", x.half(4, 2), -1);
        due("eleven", x.half(0, 0), -1);
        x.set(0, false);
        due("ten of eleven", x.half(2, 2), 6);
        for (int r = 11; r < 24; r++) {
            x.row(1, 1, 0, 0);
        }
        for (int r = 0; r < 22; r++) {
            x.set(r, false);
        }
        due("the last rows", x.half(2, 2), 3 << 22);
    }

    private static void leastSizes() {
        promise = "promise 16";
        due("one", one().sizes(0), one().sizes(1), 1, 1);
        due("two", two().sizes(0), two().sizes(1), 1, 1);
        due("not free", same().sizes(0), same().sizes(1), -1, -1);
        due("no rows", new GuessBench().sizes(0), -1);
        due("what 2", one().sizes(2), -1);
        due("what -1", one().sizes(-1), -1);
        GuessBench x = one();
        x.row(4, 3, 0, 0);
        due("a fraction", x.sizes(0), x.sizes(1), 3, 1);
        x.set(0, false);
        x.set(1, false);
        due("between", x.sizes(0), x.sizes(1), 3, 1);
        x.row(1, 2, 0, 0);
        due("a fraction", x.sizes(0), x.sizes(1), 14, 3);
        x = three(1, 2, 3);
        due("no miss", x.sizes(0), x.sizes(1), 0, 1);
        x.row(99, 0, 0, 0);
        due("zeros", x.sizes(0), x.sizes(1), 99, 1);
    }

    private static void sizedWeights() {
        promise = "promise 17";
        GuessBench x = two();
        due("sized 0", x.sized(0, 0), x.sized(0, 1), 1, 1);
        due("sized 1", x.sized(1, 0), x.sized(1, 1), 2, 1);
        due("column 2", x.sized(2, 0), -1);
        due("column -1", x.sized(-1, 0), -1);
        due("what 2", x.sized(0, 2), -1);
        due("what -1", x.sized(0, -1), -1);
        due("not free", same().sized(0, 0), -1);
        // All weights from 1 to 3 have the same sizes; the first set is the first row.
        x.start(1);
        x.row(3, 1, 0, 0);
        x.row(1, 1, 0, 0);
        due("first of several", x.sized(0, 0), x.sized(0, 1), 3, 1);
        x.set(0, false);
        x.set(0, true);
        due("the order is the rows' own", x.sized(0, 0), x.sized(0, 1), 3, 1);
        x.row(2, 1, 0, 0);
        due("the middle", x.sized(0, 0), x.sized(0, 1), 2, 1);
        x.start(1);
        x.row(1, 0, 0, 0);
        x.row(5, -3, 0, 0);
        due("below 0", x.sized(0, 0), x.sized(0, 1), -5, 3);
        // Independent rows alone: rows 0 and 1 are not.
        x.start(2);
        x.row(2, 1, 1, 0);
        x.row(4, 2, 2, 0);
        x.row(5, 0, 1, 0);
        due("independent rows", x.sized(0, 0), x.sized(0, 1), -3, 1);
        due("independent rows", x.sized(1, 0), x.sized(1, 1), 5, 1);
    }

    private static void levels() {
        promise = "promise 18";
        due("one", one().level(0), one().level(1), 2, 5);
        due("two", two().level(0), two().level(1), 1, 3);
        due("not free", same().level(0), same().level(1), -1, -1);
        due("no rows", new GuessBench().level(0), -1);
        due("what 2", one().level(2), -1);
        due("what -1", one().level(-1), -1);
        GuessBench x = three(1, 2, 3);
        due("no miss", x.level(0), x.level(1), 0, 1);
        x.row(10, 1, 1, 1);
        due("four rows", x.level(0), x.level(1), 1, 1);
        x.row(-7, 0, 0, 0);
        due("zeros", x.level(0), x.level(1), 7, 1);
        x.set(4, false);
        due("dropped", x.level(0), x.level(1), 1, 1);
        x.set(3, false);
        x.row(8, 1, 0, 0);
        due("like numbers", x.level(0), x.level(1), 7, 2);
    }

    private static void bars() {
        promise = "promise 19";
        GuessBench x = one();
        due("bar 0", x.barred(0, 0, 0), x.barred(0, 0, 1), 31, 14);
        due("bar 2", x.barred(2, 0, 0), x.barred(2, 0, 1), 15, 7);
        due("bar 61", x.barred(61, 0, 0), x.barred(61, 0, 1), 1, 28);
        due("bar 62", x.barred(62, 0, 0), x.barred(62, 0, 1), 0, 1);
        due("bar 50000", x.barred(50000, 0, 0), x.barred(50000, 0, 1), 0, 1);
        due("bar 50001", x.barred(50001, 0, 0), -1);
        due("bar -1", x.barred(-1, 0, 0), -1);
        due("bar least", x.barred(LEAST, 0, 0), -1);
        due("column 1", x.barred(0, 1, 0), -1);
        due("column -1", x.barred(0, -1, 0), -1);
        due("what 2", x.barred(0, 0, 2), -1);
        due("what -1", x.barred(0, 0, -1), -1);
        due("not free", same().barred(1, 0, 0), -1);
        due("no rows", new GuessBench().barred(1, 0, 0), -1);
        x = two();
        due("bar 8", x.barred(8, 0, 0), x.barred(8, 0, 1), 0, 1);
        due("bar 8", x.barred(8, 1, 0), x.barred(8, 1, 1), 1, 1);
        due("bar 7", x.barred(7, 0, 0), x.barred(7, 0, 1), 1, 6);
        due("bar 10", x.barred(10, 1, 0), x.barred(10, 1, 1), 1, 2);
        x = three(-4, 3, 0);
        due("below 0", x.barred(2, 0, 0), x.barred(2, 0, 1), -3, 1);
        due("above 0", x.barred(1, 1, 0), x.barred(1, 1, 1), 5, 2);
        due("at 0", x.barred(0, 2, 0), x.barred(0, 2, 1), 0, 1);
    }

    private static void costs() {
        promise = "promise 20";
        GuessBench x = one();
        due("bar 0", x.cost(0, 0), x.cost(0, 1), 5, 14);
        // w = 15/7: misses -1/7, -2/7, 4/7, and 2 * 15/7.
        due("bar 2", x.cost(2, 0), x.cost(2, 1), 33, 7);
        due("bar 62", x.cost(62, 0), x.cost(62, 1), 69, 1);
        due("bar 50000", x.cost(50000, 0), x.cost(50000, 1), 69, 1);
        due("bar 50001", x.cost(50001, 0), -1);
        due("bar -1", x.cost(-1, 0), -1);
        due("what 2", x.cost(0, 2), -1);
        due("what -1", x.cost(0, -1), -1);
        due("not free", same().cost(1, 0), -1);
        // w = -3, 2, 0: misses -1, 1, 0, and 2 * (3 + 2).
        due("below 0", three(-4, 3, 0).cost(2, 0), three(-4, 3, 0).cost(2, 1), 12, 1);
    }

    private static void corners() {
        promise = "promises 21, 22";
        GuessBench x = one();
        due("one", x.corners(), 1);
        due("corner 0", x.corner(0, 0), x.corner(0, 1), 62, 1);
        due("corner 1", x.corner(1, 0), -1);
        due("corner -1", x.corner(-1, 0), -1);
        due("corner least", x.corner(LEAST, 0), -1);
        due("corner greatest", x.corner(GREATEST, 0), -1);
        due("what 2", x.corner(0, 2), -1);
        due("what -1", x.corner(0, -1), -1);
        x = two();
        due("two", x.corners(), 2);
        due("corner 0", x.corner(0, 0), x.corner(0, 1), 12, 1);
        due("corner 1", x.corner(1, 0), x.corner(1, 1), 8, 1);
        due("not free", same().corners(), -1);
        due("not free", same().corner(0, 0), -1);
        due("no rows", new GuessBench().corners(), -1);
        x.start(1);
        x.row(0, 4, 0, 0);
        due("always 0", x.corners(), 0);
        due("always 0", x.corner(0, 0), -1);
    }

    private static void cornersOfThree() {
        promise = "promises 21, 22";
        GuessBench x = three(-4, 3, 0);
        due("each once", x.corners(), 2);
        due("corner 0", x.corner(0, 0), x.corner(0, 1), 8, 1);
        due("corner 1", x.corner(1, 0), x.corner(1, 1), 6, 1);
        x = three(5, -5, 5);
        due("all at one bar", x.corners(), 1);
        due("all at one bar", x.corner(0, 0), x.corner(0, 1), 10, 1);
        // Products 5, 3 and 3, 2 with right sides 4 and 3: without a bar the weights are -1 and 3.
        // Weight 0 comes at 8 and column 1 at 6, or, as 2 * (3 - 3 * w0) meets the bar, at 3;
        // weight 0 is back at 0 where (2 * 4 - b) * 2 = (2 * 3 - b) * 3, at 2, goes to 0 and stays
        // there while 2 * (4 - 3 * w1) is within the bar, w1 = (6 - b) / 4: till b = 2/5.
        x.start(2);
        x.row(2, 1, 1, 0);
        x.row(1, 2, 1, 0);
        due("a weight that comes, goes and comes again", x.corners(), 4);
        due("corner 0", x.corner(0, 0), x.corner(0, 1), 8, 1);
        due("corner 1", x.corner(1, 0), x.corner(1, 1), 3, 1);
        due("corner 2", x.corner(2, 0), x.corner(2, 1), 2, 1);
        due("corner 3", x.corner(3, 0), x.corner(3, 1), 2, 5);
        due("before", x.barred(4, 0, 0), x.barred(4, 0, 1), 2, 5);
        due("at 1", x.barred(1, 0, 0), x.barred(1, 0, 1), 0, 1);
        due("at 0", x.barred(0, 0, 0), x.barred(0, 0, 1), -1, 1);
    }

    private static void cornersAtOnce() {
        promise = "promises 21, 22";
        // Column 1 draws just as much as the bar holds at the one corner of column 0.
        GuessBench x = new GuessBench();
        x.start(2);
        x.row(2, 1, 0, 0);
        x.row(2, 0, 1, 0);
        due("like ones", x.corners(), 1);
        due("like ones", x.corner(0, 0), x.corner(0, 1), 4, 1);
        x.row(0, 1, -1, 0);
        due("like ones, tied", x.corners(), 1);
        due("like ones, tied", x.corner(0, 0), x.corner(0, 1), 4, 1);
        // Weight 1 is 0 without a bar but for 0 itself, which is no corner.
        x.start(2);
        x.row(3, 1, 0, 0);
        x.row(0, 0, 1, 0);
        due("0 at every bar", x.corners(), 1);
        due("0 at every bar", x.corner(0, 0), x.corner(0, 1), 6, 1);
    }

    private static void counts() {
        promise = "promise 23";
        GuessBench x = two();
        x.set(1, false);
        due("columns", x.count(0), 2);
        due("rows", x.count(1), 3);
        due("there", x.count(2), 2);
        for (int what : WRONG) {
            due("what " + what, x.count(what), -1);
        }
    }
}
