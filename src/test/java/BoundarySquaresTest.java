/** The boundary cases that promises 7 to 15 (FREE, SQUARES, PULL, few and half) name. */
public final class BoundarySquaresTest {
    private static final Checks CHECKS = new Checks();

    public static void main(String[] args) {
        freeWithoutRows();
        freeOfDependentColumns();
        freeOfRowsThere();
        weightsWithoutRows();
        weightsOfSeveral();
        weightOfOthers();
        missOfNotThere();
        missWithoutRowsThere();
        missOfOthers();
        sumWithoutRows();
        sumOfRowsThere();
        pullOfThere();
        pullOfOthers();
        withoutTheLast();
        withoutWhatMadeItFree();
        withoutChangesNothing();
        withoutOfOthers();
        farRisesAndFalls();
        farOfZero();
        farOfOthers();
        farIfNotFree();
        farIfItDoesNotHang();
        fewOfNoneAndAll();
        fewOfOthers();
        fewLeastAsBits();
        fewWithoutRows();
        halfOfNoneAndAll();
        halfOfTenAndEleven();
        halfOfOthers();
        halfFirstOfSeveral();
        halfOfRowsThere();
        halfAfterAChange();
        halfWithoutRows();
        CHECKS.end();
    }

    private static int[] row(int... numbers) {
        return numbers;
    }

    private static void freeWithoutRows() {
        CHECKS.sentence("7", "FREE (without ROWS)");
        for (int columns = 1; columns <= 3; columns++) {
            GuessBench x = Benches.of(columns);
            CHECKS.due("no rows", x.free(), 0);
            x.row(7, 0, 0, 0);
            CHECKS.due("a row of zeros", x.free(), 0);
            x.row(7, 1, 2, 3);
            CHECKS.due("a row", x.free(), 1);
            x.set(1, false);
            CHECKS.due("dropped", x.free(), 0);
            x.set(0, false);
            CHECKS.due("all dropped", x.free(), 0);
        }
    }

    private static void freeOfDependentColumns() {
        CHECKS.sentence("Terms", "FREE is how many COLUMNS are independent");
        CHECKS.due("a column of zeros", Benches.of(2, row(4, 2, 0), row(7, 3, 0)).free(), 1);
        CHECKS.due("the same twice", Benches.same().free(), 1);
        CHECKS.due("one less the other", Benches.of(3, row(0, 1, 2, 1), row(0, 3, 1, -2), row(0, 2, 2, 0),
                row(0, -9, 0, 9)).free(), 2);
        CHECKS.due("nearly the same", Benches.of(3, row(5, 9, 9, 9), row(7, 9, 9, 8), row(-3, 9, 8, 9)).free(), 3);
        CHECKS.due("fewer rows than columns", Benches.of(3, row(5, 9, 9, 9), row(7, 9, 9, 8)).free(), 2);
        GuessBench x = Benches.of(3);
        for (int r = 0; r < 23; r++) {
            x.row(99, 9, 9, -9);
        }
        CHECKS.due("23 like rows", x.free(), 1);
        x.row(99, 9, 9, -8);
        CHECKS.due("and one unlike", x.free(), 2);
    }

    private static void freeOfRowsThere() {
        CHECKS.sentence("Terms", "all is of the ROWS that are THERE");
        GuessBench x = Benches.three(1, 2, 3);
        CHECKS.due("all", x.free(), 3);
        x.set(2, false);
        CHECKS.due("two", x.free(), 2);
        x.set(0, false);
        CHECKS.due("one", x.free(), 1);
        x.set(2, true);
        CHECKS.due("two again", x.free(), 2);
    }

    private static void weightsWithoutRows() {
        CHECKS.sentence("Terms", "(Without ROWS all are 0.)");
        for (int columns = 1; columns <= 3; columns++) {
            GuessBench x = Benches.of(columns);
            GuessBench y = Benches.of(columns, row(50, 1, 2, 3));
            y.set(0, false);
            GuessBench z = Benches.of(columns, row(50, 0, 0, 0));
            for (int c = 0; c < columns; c++) {
                CHECKS.fraction("no rows", x.weight(c, 0), x.weight(c, 1), 0, 1);
                CHECKS.fraction("none there", y.weight(c, 0), y.weight(c, 1), 0, 1);
                CHECKS.fraction("zeros", z.weight(c, 0), z.weight(c, 1), 0, 1);
            }
        }
    }

    private static void weightsOfSeveral() {
        CHECKS.sentence("Terms", "if there are several, of these the ones with the least sum of WEIGHTS squared");
        long[][] want = {{1, 1}, {2, 1}, {1, 1}};
        GuessBench x = Benches.of(3, row(6, 1, 2, 1));
        for (int c = 0; c < 3; c++) {
            CHECKS.fraction("one free of three " + c, x.weight(c, 0), x.weight(c, 1), want[c][0], want[c][1]);
        }
        long[][] wantTwo = {{1, 3}, {7, 3}, {8, 3}};
        x = Benches.of(3, row(3, 1, 0, 1), row(5, 0, 1, 1));
        for (int c = 0; c < 3; c++) {
            CHECKS.fraction("two free of three " + c, x.weight(c, 0), x.weight(c, 1), wantTwo[c][0], wantTwo[c][1]);
        }
        x = Benches.of(2, row(4, 2, 0), row(7, 3, 0));
        CHECKS.fraction("beside zeros", x.weight(0, 0), x.weight(0, 1), 29, 13);
        CHECKS.fraction("of zeros", x.weight(1, 0), x.weight(1, 1), 0, 1);
        x = Benches.of(2, row(3, 3, 1), row(1, 6, 2), row(5, 3, 1));
        CHECKS.fraction("with misses", x.weight(0, 0), x.weight(0, 1), 1, 2);
        CHECKS.fraction("with misses", x.weight(1, 0), x.weight(1, 1), 1, 6);
    }

    private static void weightOfOthers() {
        CHECKS.sentence("8", "NONE for others");
        for (int columns = 1; columns <= 3; columns++) {
            GuessBench x = Benches.of(columns, row(5, 1, 2, 3), row(6, 0, 1, 1), row(7, 0, 0, 1));
            for (int what = 0; what <= 1; what++) {
                for (int c : Checks.FAR_OFF) {
                    CHECKS.due("column " + c, x.weight(c, what), -1);
                }
                for (int c = columns; c <= 3; c++) {
                    CHECKS.due("column " + c + " of " + columns, x.weight(c, what), -1);
                }
                CHECKS.due("column -1", x.weight(-1, what), -1);
            }
        }
    }

    private static void missOfNotThere() {
        CHECKS.sentence("9", "also of one that is not THERE");
        GuessBench x = Benches.one();
        CHECKS.fraction("there", x.miss(2, 0), x.miss(2, 1), 5, 14);
        x.set(2, false);
        CHECKS.fraction("dropped", x.miss(2, 0), x.miss(2, 1), 1, 1);
        CHECKS.fraction("there", x.miss(0, 0), x.miss(0, 1), 0, 1);
        x = Benches.two();
        x.set(0, false);
        CHECKS.fraction("dropped", x.miss(0, 0), x.miss(0, 1), -1, 1);
    }

    private static void missWithoutRowsThere() {
        CHECKS.sentence("9", "MISS by SQUARES, without ROWS all 0");
        GuessBench x = Benches.of(2, row(-99, 9, 9), row(99, 1, 1));
        x.set(0, false);
        x.set(1, false);
        CHECKS.fraction("row 0", x.miss(0, 0), x.miss(0, 1), -99, 1);
        CHECKS.fraction("row 1", x.miss(1, 0), x.miss(1, 1), 99, 1);
    }

    private static void missOfOthers() {
        CHECKS.sentence("9", "NONE for others");
        for (int what = 0; what <= 1; what++) {
            for (int row : Checks.FAR_OFF) {
                CHECKS.due("row " + row, Benches.one().miss(row, what), -1);
            }
            CHECKS.due("row -1", Benches.one().miss(-1, what), -1);
            CHECKS.due("row 3 of three", Benches.one().miss(3, what), -1);
            CHECKS.due("row 0 of none", new GuessBench().miss(0, what), -1);
        }
    }

    private static void sumWithoutRows() {
        CHECKS.sentence("10", "The sum of MISSES squared (without ROWS)");
        for (int columns = 1; columns <= 3; columns++) {
            GuessBench x = Benches.of(columns);
            CHECKS.fraction("no rows", x.sum(0), x.sum(1), 0, 1);
            x.row(-99, 0, 0, 0);
            CHECKS.fraction("zeros", x.sum(0), x.sum(1), 9801, 1);
            x.set(0, false);
            CHECKS.fraction("none there", x.sum(0), x.sum(1), 0, 1);
        }
    }

    private static void sumOfRowsThere() {
        CHECKS.sentence("Terms", "all is of the ROWS that are THERE");
        GuessBench x = Benches.one();
        CHECKS.fraction("all", x.sum(0), x.sum(1), 5, 14);
        x.row(99, 0, 0, 0);
        CHECKS.fraction("one more", x.sum(0), x.sum(1), 137219, 14);
        x.set(3, false);
        CHECKS.fraction("dropped", x.sum(0), x.sum(1), 5, 14);
    }

    private static void pullOfThere() {
        CHECKS.sentence("11", "PULL of a ROW that is THERE");
        GuessBench x = Benches.of(3, row(6, 1, 2, 1));
        CHECKS.fraction("the only one", x.pull(0, 0), x.pull(0, 1), 1, 1);
        x = Benches.of(2, row(2, 1, 1), row(4, 2, 2), row(5, 0, 0));
        CHECKS.fraction("not free", x.pull(0, 0), x.pull(0, 1), 1, 5);
        CHECKS.fraction("not free", x.pull(1, 0), x.pull(1, 1), 4, 5);
        CHECKS.fraction("zeros", x.pull(2, 0), x.pull(2, 1), 0, 1);
        CHECKS.fraction("zeros alone", Benches.of(1, row(5, 0)).pull(0, 0), Benches.of(1, row(5, 0)).pull(0, 1), 0, 1);
        x.set(1, false);
        CHECKS.fraction("the other dropped", x.pull(0, 0), x.pull(0, 1), 1, 1);
    }

    private static void pullOfOthers() {
        CHECKS.sentence("11", "NONE for others");
        for (int what = 0; what <= 1; what++) {
            for (int row : Checks.FAR_OFF) {
                CHECKS.due("row " + row, Benches.one().pull(row, what), -1);
            }
            CHECKS.due("row -1", Benches.one().pull(-1, what), -1);
            CHECKS.due("row 3 of three", Benches.one().pull(3, what), -1);
            CHECKS.due("row 0 of none", new GuessBench().pull(0, what), -1);
            GuessBench x = Benches.one();
            x.set(1, false);
            CHECKS.due("a row that is not there", x.pull(1, what), -1);
            x.set(1, true);
            CHECKS.due("taken back", x.pull(1, what), what == 0 ? 2 : 7);
        }
    }

    private static void withoutTheLast() {
        CHECKS.sentence("12", "as if a ROW that is THERE were not (without ROWS all are 0)");
        GuessBench x = Benches.of(3, row(6, 1, 2, 1), row(7, 1, 1, 1));
        x.set(1, false);
        for (int c = 0; c < 3; c++) {
            CHECKS.fraction("the only one there", x.without(0, c, 0), x.without(0, c, 1), 0, 1);
        }
    }

    private static void withoutWhatMadeItFree() {
        CHECKS.sentence("12", "as if a ROW that is THERE were not (of several the least)");
        GuessBench x = Benches.of(2, row(2, 1, 1), row(9, 1, -1));
        CHECKS.fraction("column 0", x.without(1, 0, 0), x.without(1, 0, 1), 1, 1);
        CHECKS.fraction("column 1", x.without(1, 1, 0), x.without(1, 1, 1), 1, 1);
        CHECKS.fraction("column 0", x.without(0, 0, 0), x.without(0, 0, 1), 9, 2);
        CHECKS.fraction("column 1", x.without(0, 1, 0), x.without(0, 1, 1), -9, 2);
        x = Benches.of(3, row(5, 9, 9, 9), row(7, 9, 9, 8), row(-3, 9, 8, 9));
        CHECKS.fraction("three less one", x.without(0, 0, 0), x.without(0, 0, 1), 36, 451);
        CHECKS.fraction("three less one", x.without(2, 1, 0), x.without(2, 1, 1), 23, 18);
    }

    private static void withoutChangesNothing() {
        CHECKS.sentence("12", "as if");
        CHECKS.due("answers after it", Benches.answers(() -> {
            GuessBench x = Benches.two();
            x.without(0, 0, 0);
            return x;
        }), Benches.answers(Benches::two));
        GuessBench x = Benches.two();
        CHECKS.due("weight before", x.weight(0, 0), 4);
        CHECKS.due("without", x.without(0, 0, 0), 2);
        CHECKS.due("weight after", x.weight(0, 0), 4);
        CHECKS.due("there", x.there(0), true);
    }

    private static void withoutOfOthers() {
        CHECKS.sentence("12", "NONE for others");
        for (int what = 0; what <= 1; what++) {
            for (int off : Checks.FAR_OFF) {
                CHECKS.due("row " + off, Benches.two().without(off, 0, what), -1);
                CHECKS.due("column " + off, Benches.two().without(0, off, what), -1);
            }
            CHECKS.due("row -1", Benches.two().without(-1, 0, what), -1);
            CHECKS.due("row 3 of three", Benches.two().without(3, 0, what), -1);
            CHECKS.due("row 0 of none", new GuessBench().without(0, 0, what), -1);
            CHECKS.due("column -1", Benches.two().without(0, -1, what), -1);
            CHECKS.due("column 1 of one", Benches.one().without(0, 1, what), -1);
            CHECKS.due("column 2 of two", Benches.two().without(0, 2, what), -1);
            CHECKS.due("column 3 of three", Benches.three(1, 2, 3).without(0, 3, what), -1);
            GuessBench x = Benches.two();
            x.set(1, false);
            CHECKS.due("a row that is not there", x.without(1, 0, what), -1);
        }
    }

    private static void farRisesAndFalls() {
        CHECKS.sentence("13", "By how much the TOLD number .. must rise (below 0: fall)");
        GuessBench x = Benches.of(2, row(3, 2, 1), row(6, 2, -1));
        CHECKS.fraction("fall", x.far(0, 0, 0), x.far(0, 0, 1), -9, 1);
        CHECKS.fraction("rise", x.far(0, 1, 0), x.far(0, 1, 1), 3, 1);
        CHECKS.fraction("fall", x.far(1, 1, 0), x.far(1, 1, 1), -3, 1);
        CHECKS.fraction("then it is 0", Benches.of(2, row(6, 2, 1), row(6, 2, -1)).weight(1, 0),
                Benches.of(2, row(3, 2, 1), row(3, 2, -1)).weight(1, 0), 0, 0);
        x = Benches.of(3, row(2, 1, -1, 3), row(-4, 2, 1, -6), row(9, 0, 3, 1), row(1, -1, 1, 1));
        CHECKS.fraction("by a fraction", x.far(0, 0, 0), x.far(0, 0, 1), -709, 283);
        CHECKS.fraction("by more than may be told", x.far(3, 2, 0), x.far(3, 2, 1), 150, 1);
        CHECKS.fraction("by a fraction", x.far(1, 2, 0), x.far(1, 2, 1), 50, 3);
    }

    private static void farOfZero() {
        CHECKS.sentence("13", "for WEIGHT c of SQUARES to be 0 (it is)");
        GuessBench x = Benches.of(1, row(3, 2), row(-3, 2));
        CHECKS.fraction("row 0", x.far(0, 0, 0), x.far(0, 0, 1), 0, 1);
        CHECKS.fraction("row 1", x.far(1, 0, 0), x.far(1, 0, 1), 0, 1);
    }

    private static void farOfOthers() {
        CHECKS.sentence("13", "NONE for others");
        for (int what = 0; what <= 1; what++) {
            for (int off : Checks.FAR_OFF) {
                CHECKS.due("row " + off, Benches.two().far(off, 0, what), -1);
                CHECKS.due("column " + off, Benches.two().far(0, off, what), -1);
            }
            CHECKS.due("row -1", Benches.two().far(-1, 0, what), -1);
            CHECKS.due("row 3 of three", Benches.two().far(3, 0, what), -1);
            CHECKS.due("column -1", Benches.two().far(0, -1, what), -1);
            CHECKS.due("column 1 of one", Benches.one().far(0, 1, what), -1);
            CHECKS.due("column 2 of two", Benches.two().far(0, 2, what), -1);
            CHECKS.due("column 3 of three", Benches.three(1, 2, 3).far(0, 3, what), -1);
            GuessBench x = Benches.one();
            x.set(1, false);
            CHECKS.due("a row that is not there", x.far(1, 0, what), -1);
        }
    }

    private static void farIfNotFree() {
        CHECKS.sentence("13", "NONE .. if FREE is not the number of COLUMNS");
        for (int what = 0; what <= 1; what++) {
            CHECKS.due("the same twice", Benches.same().far(0, 0, what), -1);
            CHECKS.due("the same twice", Benches.same().far(1, 1, what), -1);
            CHECKS.due("fewer rows", Benches.of(3, row(6, 1, 2, 1)).far(0, 0, what), -1);
            CHECKS.due("zeros", Benches.of(1, row(6, 0)).far(0, 0, what), -1);
            // Weight 0 hangs on row 0 here, but column 1 is not free.
            CHECKS.due("a column of zeros", Benches.of(2, row(4, 2, 0), row(7, 3, 0)).far(0, 0, what), -1);
            GuessBench x = Benches.two();
            x.set(0, false);
            x.set(1, false);
            CHECKS.due("after dropping", x.far(2, 0, what), -1);
        }
    }

    private static void farIfItDoesNotHang() {
        CHECKS.sentence("13", "NONE .. or the WEIGHT does not hang on it");
        for (int what = 0; what <= 1; what++) {
            CHECKS.due("another's row", Benches.three(1, 2, 3).far(0, 1, what), -1);
            CHECKS.due("another's row", Benches.three(1, 2, 3).far(2, 0, what), -1);
            GuessBench x = Benches.two();
            x.row(9, 0, 0, 0);
            CHECKS.due("zeros", x.far(3, 0, what), -1);
            x = Benches.of(3, row(5, 9, 9, 9), row(7, 9, 9, 8), row(-3, 9, 8, 9));
            CHECKS.due("without a zero", x.far(1, 1, what), -1);
            CHECKS.due("without a zero", x.far(2, 2, what), -1);
            CHECKS.due("another hangs", x.far(0, 1, what), what == 0 ? -8 : 1);
            x = Benches.of(2, row(0, 1, 0), row(3, 0, 1));
            CHECKS.due("0, but not by it", x.far(1, 0, what), -1);
        }
    }

    private static void fewOfNoneAndAll() {
        CHECKS.sentence("14", "so many COLUMNS (0 .. all)");
        GuessBench x = Benches.two();
        CHECKS.fraction("none", x.few(0, 0), x.few(0, 1), 21, 1);
        CHECKS.due("none, the set", x.few(0, 2), 0);
        CHECKS.fraction("all", x.few(2, 0), x.few(2, 1), 1, 3);
        CHECKS.due("all, the set", x.few(2, 2), 3);
        CHECKS.due("all of one", Benches.one().few(1, 2), 1);
        x = Benches.of(3, row(2, 1, -1, 3), row(-4, 2, 1, -6), row(9, 0, 3, 1), row(1, -1, 1, 1));
        CHECKS.fraction("none of three", x.few(0, 0), x.few(0, 1), 102, 1);
        CHECKS.fraction("one of three", x.few(1, 0), x.few(1, 1), 185, 3);
        CHECKS.due("one of three, the set", x.few(1, 2), 2);
        CHECKS.fraction("two of three", x.few(2, 0), x.few(2, 1), 4230, 539);
        CHECKS.due("two of three, the set", x.few(2, 2), 6);
        CHECKS.fraction("all of three", x.few(3, 0), x.few(3, 1), 841, 226);
        CHECKS.due("all of three, the set", x.few(3, 2), 7);
    }

    private static void fewOfOthers() {
        CHECKS.sentence("14", "NONE for others");
        for (int what = 0; what <= 2; what++) {
            for (int many : Checks.FAR_OFF) {
                CHECKS.due("few " + many, Benches.three(1, 2, 3).few(many, what), -1);
            }
            CHECKS.due("few -1", Benches.two().few(-1, what), -1);
            CHECKS.due("few 2 of one", Benches.one().few(2, what), -1);
            CHECKS.due("few 3 of two", Benches.two().few(3, what), -1);
            CHECKS.due("few 4 of three", Benches.three(1, 2, 3).few(4, what), -1);
        }
        for (int what : Checks.FAR_OFF) {
            CHECKS.due("what " + what, Benches.two().few(1, what), -1);
        }
        CHECKS.due("what -1", Benches.two().few(1, -1), -1);
        CHECKS.due("what 3", Benches.two().few(1, 3), -1);
    }

    private static void fewLeastAsBits() {
        CHECKS.sentence("14", "of several the one that is least as bits, COLUMN c bit c");
        CHECKS.due("1 of 1, 2, 4", Benches.three(5, 5, 5).few(1, 2), 1);
        CHECKS.due("1 of 1, 2", Benches.three(5, 5, 1).few(1, 2), 1);
        CHECKS.due("1 of 1, 4", Benches.three(5, 1, 5).few(1, 2), 1);
        CHECKS.due("2 of 2, 4", Benches.three(1, 5, 5).few(1, 2), 2);
        CHECKS.due("4 alone", Benches.three(1, 1, 5).few(1, 2), 4);
        CHECKS.due("3 of 3, 5, 6", Benches.three(5, 5, 5).few(2, 2), 3);
        CHECKS.due("3 of 3, 5", Benches.three(5, 1, 1).few(2, 2), 3);
        CHECKS.due("3 of 3, 6", Benches.three(1, 5, 1).few(2, 2), 3);
        CHECKS.due("5 of 5, 6", Benches.three(1, 1, 5).few(2, 2), 5);
        CHECKS.due("6 alone", Benches.three(1, 5, 5).few(2, 2), 6);
        // One column is twice (a third of) the other: like sums, found over unlike divisors.
        GuessBench x = Benches.of(2, row(3, 1, 2), row(1, 2, 4), row(5, 1, 2));
        CHECKS.fraction("twice", x.few(1, 0), x.few(1, 1), 55, 3);
        CHECKS.due("twice, the set", x.few(1, 2), 1);
        x = Benches.of(2, row(3, 3, 1), row(1, 6, 2), row(5, 3, 1));
        CHECKS.fraction("a third", x.few(1, 0), x.few(1, 1), 55, 3);
        CHECKS.due("a third, the set", x.few(1, 2), 1);
    }

    private static void fewWithoutRows() {
        CHECKS.sentence("14", "the sum by SQUARES (without ROWS)");
        GuessBench x = Benches.of(3);
        int[] sets = {0, 1, 3, 7};
        for (int many = 0; many <= 3; many++) {
            CHECKS.fraction("few " + many, x.few(many, 0), x.few(many, 1), 0, 1);
            CHECKS.due("few " + many + ", the set", x.few(many, 2), sets[many]);
        }
    }

    private static void halfOfNoneAndAll() {
        CHECKS.sentence("15", "so many ROWS of those THERE (0 .. as many)");
        GuessBench x = Benches.one();
        CHECKS.fraction("none", x.half(0, 0), x.half(0, 1), 0, 1);
        CHECKS.due("none, the set", x.half(0, 2), 0);
        CHECKS.fraction("all", x.half(3, 0), x.half(3, 1), 5, 14);
        CHECKS.due("all, the set", x.half(3, 2), 7);
        CHECKS.fraction("two", x.half(2, 0), x.half(2, 1), 0, 1);
        CHECKS.due("two, the set", x.half(2, 2), 3);
    }

    /** Told squares of r are left, since no column helps. */
    private static GuessBench squaresOf(int rows) {
        GuessBench x = Benches.of(2);
        for (int r = 0; r < rows; r++) {
            x.row(r, 0, 0, 0);
        }
        return x;
    }

    private static void halfOfTenAndEleven() {
        CHECKS.sentence("15", "NONE: more than 10 are THERE");
        long left = 0;
        for (int many = 0; many <= 10; many++) {
            GuessBench x = squaresOf(10);
            CHECKS.fraction("ten, " + many, x.half(many, 0), x.half(many, 1), left, 1);
            CHECKS.due("ten, " + many + ", the set", x.half(many, 2), (1 << many) - 1);
            left += many * many;
        }
        for (int many = 0; many <= 12; many++) {
            for (int what = 0; what <= 2; what++) {
                CHECKS.due("eleven, " + many, squaresOf(11).half(many, what), -1);
                CHECKS.due("twenty-four, " + many, squaresOf(24).half(many, what), -1);
            }
        }
        GuessBench x = squaresOf(11);
        x.set(0, false);
        CHECKS.due("ten of eleven", x.half(2, 0), 5);
        CHECKS.due("ten of eleven, the set", x.half(2, 2), 6);
        CHECKS.due("all ten of eleven, the set", x.half(10, 2), 2046);
        x.set(0, true);
        CHECKS.due("eleven again", x.half(2, 2), -1);
    }

    private static void halfOfOthers() {
        CHECKS.sentence("15", "NONE: .. many is not 0 .. as many, others");
        for (int what = 0; what <= 2; what++) {
            for (int many : Checks.FAR_OFF) {
                CHECKS.due("half " + many, squaresOf(10).half(many, what), -1);
            }
            CHECKS.due("half -1", Benches.one().half(-1, what), -1);
            CHECKS.due("half 4 of three", Benches.one().half(4, what), -1);
            CHECKS.due("half 11 of ten", squaresOf(10).half(11, what), -1);
            GuessBench x = Benches.one();
            x.set(0, false);
            CHECKS.due("half 3 with two there", x.half(3, what), -1);
        }
        for (int what : Checks.FAR_OFF) {
            CHECKS.due("what " + what, Benches.one().half(2, what), -1);
        }
        CHECKS.due("what -1", Benches.one().half(2, -1), -1);
        CHECKS.due("what 3", Benches.one().half(2, 3), -1);
    }

    private static void halfFirstOfSeveral() {
        CHECKS.sentence("15", "of several the first, as with SIZES");
        CHECKS.due("0 of all", Benches.one().half(1, 2), 1);
        CHECKS.due("0, 1 of all", Benches.three(1, 2, 3).half(2, 2), 3);
        GuessBench x = Benches.of(1, row(1, 1), row(2, 1), row(2, 1), row(1, 1));
        CHECKS.due("0, 3 is before 1, 2", x.half(2, 2), 9);
        x = Benches.of(1, row(9, 1), row(1, 1), row(2, 1), row(2, 1), row(1, 1));
        CHECKS.due("1, 4 is before 2, 3", x.half(2, 2), 18);
        // Like sums of 2, found over unlike divisors.
        x = Benches.of(1, row(1, 1), row(3, 1), row(30, 3), row(32, 3));
        CHECKS.fraction("0, 1 and 2, 3", x.half(2, 0), x.half(2, 1), 2, 1);
        CHECKS.due("0, 1 is before 2, 3", x.half(2, 2), 3);
        x = Benches.of(1, row(30, 3), row(32, 3), row(1, 1), row(3, 1));
        CHECKS.due("0, 1 is before 2, 3", x.half(2, 2), 3);
        x = Benches.of(1, row(30, 3), row(1, 1), row(3, 1), row(32, 3));
        CHECKS.due("0, 3 is before 1, 2", x.half(2, 2), 9);
        x = Benches.of(1, row(1, 1), row(30, 3), row(32, 3), row(3, 1));
        CHECKS.due("0, 3 is before 1, 2", x.half(2, 2), 9);
    }

    private static void halfOfRowsThere() {
        CHECKS.sentence("15", "of those THERE .. (ROW r bit r)");
        GuessBench x = Benches.of(1);
        for (int r = 0; r < 24; r++) {
            x.row(r, 0, 0, 0);
        }
        for (int r = 0; r < 20; r++) {
            x.set(r, false);
        }
        CHECKS.due("none of 20 .. 23", x.half(0, 2), 0);
        CHECKS.due("one of 20 .. 23", x.half(1, 2), 1 << 20);
        CHECKS.due("two of 20 .. 23", x.half(2, 2), 3 << 20);
        CHECKS.due("two of 20 .. 23, the sum", x.half(2, 0), 841);
        CHECKS.due("four of 20 .. 23", x.half(4, 2), 15 << 20);
        CHECKS.due("five", x.half(5, 2), -1);
        x.set(21, false);
        x.set(3, true);
        CHECKS.due("two of 3, 20, 22, 23", x.half(2, 2), 1 << 20 | 1 << 3);
        CHECKS.due("two of 3, 20, 22, 23, the sum", x.half(2, 0), 409);
    }

    /** The same question before and after a change: what was found before must not be told again. */
    private static void halfAfterAChange() {
        CHECKS.sentence("15", "of those THERE (now)");
        GuessBench x = Benches.of(1, row(5, 0), row(7, 0));
        CHECKS.due("the first", x.half(1, 2), 1);
        CHECKS.fraction("the first", x.half(1, 0), x.half(1, 1), 25, 1);
        x.row(3, 0, 0, 0);
        CHECKS.due("a row more", x.half(1, 2), 4);
        CHECKS.fraction("a row more", x.half(1, 0), x.half(1, 1), 9, 1);
        x.set(2, false);
        CHECKS.due("dropped", x.half(1, 2), 1);
        x.set(0, false);
        CHECKS.due("dropped too", x.half(1, 2), 2);
        CHECKS.fraction("dropped too", x.half(1, 0), x.half(1, 1), 49, 1);
        x.set(2, true);
        CHECKS.due("taken back", x.half(1, 2), 4);
        for (int many : new int[] {-1, 3}) {
            for (int what = 0; what <= 2; what++) {
                CHECKS.due("half " + many + " after a change", x.half(many, what), -1);
                CHECKS.due("half 1 was found", x.half(1, 2), 4);
                x.row(9, 0, 0, 0);
                x.set(x.count(1) - 1, false);
                CHECKS.due("half " + many + " after what was found and a change", x.half(many, what), -1);
            }
        }
        x.start(2);
        CHECKS.due("started again", x.half(1, 2), -1);
        CHECKS.due("started again, half -1", x.half(-1, 2), -1);
        x.row(2, 0, 0, 0);
        CHECKS.fraction("started again, a row", x.half(1, 0), x.half(1, 1), 4, 1);
    }

    private static void halfWithoutRows() {
        CHECKS.sentence("15", "many is not 0 .. as many (without ROWS)");
        CHECKS.due("none of a new object, the set", new GuessBench().half(0, 2), 0);
        CHECKS.fraction("none of a new object", new GuessBench().half(0, 0), new GuessBench().half(0, 1), 0, 1);
        for (int columns = 1; columns <= 3; columns++) {
            GuessBench x = Benches.of(columns);
            CHECKS.fraction("none of none", x.half(0, 0), x.half(0, 1), 0, 1);
            CHECKS.due("none of none, the set", x.half(0, 2), 0);
            CHECKS.due("one of none", x.half(1, 0), -1);
            CHECKS.due("one of none, the set", x.half(1, 2), -1);
            x.row(99, 0, 0, 0);
            x.set(0, false);
            CHECKS.due("none of those there", x.half(0, 2), 0);
            CHECKS.due("one of those there", x.half(1, 2), -1);
        }
    }
}
