import java.util.function.Supplier;

/** The boundary cases that promises 16 to 22 name: what is told only if all COLUMNS are independent. */
public final class BoundaryWholeTest {
    private static final Checks CHECKS = new Checks();

    public static void main(String[] args) {
        noneWithoutRows();
        noneWithFewerRowsThanColumns();
        noneOfDependentColumns();
        noneAfterDropping();
        toldAgainAfterTakingBack();
        toldAgainAfterStart();
        sizesOfExactGuesses();
        sizesAndRowsOfZeros();
        sizesOfRowsThere();
        sizedOfFirstSet();
        sizedPastDependentSets();
        sizedPastRowsNotThere();
        sizedOfOthers();
        levelOfExactGuesses();
        levelAndRowsOfZeros();
        levelOfRowsThere();
        barZero();
        barGreatest();
        barBeyond();
        barredOfOthers();
        barredOneAlone();
        barredOfRowsThere();
        cornerWhereAWeightBecomesZero();
        CHECKS.end();
    }

    private static int[] row(int... numbers) {
        return numbers;
    }

    /** Three columns, four rows, nothing alike. */
    private static GuessBench plain() {
        return Benches.of(3, row(2, 1, -1, 3), row(-4, 2, 1, -6), row(9, 0, 3, 1), row(1, -1, 1, 1));
    }

    private static GuessBench alike(int many, int... numbers) {
        GuessBench x = new GuessBench();
        for (int r = 0; r < many; r++) {
            Benches.add(x, numbers);
        }
        return x;
    }

    private static void nothingTold(String state, Supplier<GuessBench> maker) {
        GuessBench x = maker.get();
        CHECKS.due(state + ": corners", x.corners(), -1);
        for (int what = 0; what <= 1; what++) {
            CHECKS.due(state + ": sizes", x.sizes(what), -1);
            CHECKS.due(state + ": level", x.level(what), -1);
            for (int c = 0; c < 3; c++) {
                CHECKS.due(state + ": sized " + c, x.sized(c, what), -1);
                CHECKS.due(state + ": barred 0 " + c, x.barred(0, c, what), -1);
                CHECKS.due(state + ": barred 50000 " + c, x.barred(50000, c, what), -1);
            }
            CHECKS.due(state + ": cost 0", x.cost(0, what), -1);
            CHECKS.due(state + ": cost 50000", x.cost(50000, what), -1);
            CHECKS.due(state + ": corner 0", x.corner(0, what), -1);
        }
    }

    private static void noneWithoutRows() {
        CHECKS.sentence("16 to 22", "told only if FREE is the number of COLUMNS (else NONE): no ROWS");
        nothingTold("new", GuessBench::new);
        nothingTold("one column", () -> Benches.of(1));
        nothingTold("two columns", () -> Benches.of(2));
        nothingTold("three columns", () -> Benches.of(3));
        nothingTold("started again", () -> {
            GuessBench x = Benches.one();
            x.start(1);
            return x;
        });
    }

    private static void noneWithFewerRowsThanColumns() {
        CHECKS.sentence("16 to 22", "told only if FREE is the number of COLUMNS (else NONE): fewer ROWS");
        nothingTold("one of two", () -> Benches.of(2, row(5, 1, 2)));
        nothingTold("one of three", () -> Benches.of(3, row(5, 1, 2, 3)));
        nothingTold("two of three", () -> Benches.of(3, row(5, 1, 2, 3), row(5, 9, 0, -9)));
    }

    private static void noneOfDependentColumns() {
        CHECKS.sentence("16 to 22", "told only if FREE is the number of COLUMNS (else NONE): dependent");
        nothingTold("only zeros", () -> Benches.of(1, row(5, 0), row(9, 0)));
        nothingTold("the same twice", Benches::same);
        nothingTold("a column of zeros", () -> Benches.of(2, row(4, 2, 0), row(7, 3, 0), row(1, 1, 0)));
        nothingTold("one less the other", () -> Benches.of(3, row(0, 1, 2, 1), row(4, 3, 1, -2), row(0, 2, 2, 0),
                row(3, -9, 0, 9)));
        nothingTold("one free of three", () -> Benches.of(3, row(1, 9, 9, 9), row(2, 9, 9, 9), row(3, 8, 8, 8)));
        nothingTold("24 like rows", () -> {
            GuessBench x = Benches.of(2);
            for (int r = 0; r < 24; r++) {
                x.row(99, 9, -9, 0);
            }
            return x;
        });
    }

    private static GuessBench dropped() {
        GuessBench x = Benches.two();
        x.sizes(0);
        x.corners();
        x.set(0, false);
        x.set(2, false);
        return x;
    }

    private static void noneAfterDropping() {
        CHECKS.sentence("16 to 22", "told only if FREE is the number of COLUMNS (else NONE), of the ROWS that are THERE");
        nothingTold("dropped", BoundaryWholeTest::dropped);
        nothingTold("all dropped", () -> {
            GuessBench x = dropped();
            x.set(1, false);
            return x;
        });
        nothingTold("the only one that is no zero dropped", () -> {
            GuessBench x = Benches.of(1, row(5, 0), row(5, 1));
            x.level(0);
            x.set(1, false);
            return x;
        });
    }

    private static void toldAgainAfterTakingBack() {
        CHECKS.sentence("16 to 22", "told only if FREE is the number of COLUMNS (again)");
        GuessBench x = dropped();
        CHECKS.due("dropped", x.sizes(0), -1);
        x.set(2, true);
        CHECKS.fraction("two there: sizes", x.sizes(0), x.sizes(1), 0, 1);
        CHECKS.fraction("two there: sized 0", x.sized(0, 0), x.sized(0, 1), 2, 1);
        CHECKS.fraction("two there: sized 1", x.sized(1, 0), x.sized(1, 1), 2, 1);
        CHECKS.due("two there: corners", x.corners(), 2);
        CHECKS.fraction("two there: corner 0", x.corner(0, 0), x.corner(0, 1), 12, 1);
        CHECKS.fraction("two there: corner 1", x.corner(1, 0), x.corner(1, 1), 4, 1);
        x.set(0, true);
        CHECKS.fraction("all there: level", x.level(0), x.level(1), 1, 3);
        CHECKS.fraction("all there: corner 1", x.corner(1, 0), x.corner(1, 1), 8, 1);
    }

    private static void toldAgainAfterStart() {
        CHECKS.sentence("16 to 22", "told only if FREE is the number of COLUMNS (fewer of them)");
        GuessBench x = Benches.same();
        CHECKS.due("the same twice", x.corners(), -1);
        x.start(1);
        CHECKS.due("no rows", x.corners(), -1);
        x.row(2, 1, 1, 0);
        CHECKS.due("one row", x.corners(), 1);
        CHECKS.fraction("one row: corner 0", x.corner(0, 0), x.corner(0, 1), 4, 1);
        CHECKS.fraction("one row: barred", x.barred(1, 0, 0), x.barred(1, 0, 1), 3, 2);
    }

    private static void sizesOfExactGuesses() {
        CHECKS.sentence("16", "SIZES (of 0)");
        CHECKS.fraction("as many rows as columns", Benches.three(5, -5, 7).sizes(0), Benches.three(5, -5, 7).sizes(1), 0, 1);
        GuessBench x = Benches.of(1, row(3, 2), row(6, 4), row(9, 6));
        CHECKS.fraction("more rows", x.sizes(0), x.sizes(1), 0, 1);
        CHECKS.fraction("more rows, the weight", x.sized(0, 0), x.sized(0, 1), 3, 2);
        x = Benches.of(1, row(0, 9), row(0, -9));
        CHECKS.fraction("nothing told", x.sizes(0), x.sizes(1), 0, 1);
        CHECKS.fraction("nothing told, the weight", x.sized(0, 0), x.sized(0, 1), 0, 1);
    }

    private static void sizesAndRowsOfZeros() {
        CHECKS.sentence("16", "sum of MISSES' sizes (of a ROW of zeros too)");
        GuessBench x = Benches.of(1, row(0, 0), row(-7, 0), row(3, 1), row(5, 1));
        CHECKS.fraction("sizes", x.sizes(0), x.sizes(1), 9, 1);
        CHECKS.fraction("sized", x.sized(0, 0), x.sized(0, 1), 3, 1);
    }

    private static void sizesOfRowsThere() {
        CHECKS.sentence("16", "all is of the ROWS that are THERE");
        GuessBench x = plain();
        CHECKS.fraction("all", x.sizes(0), x.sizes(1), 29, 13);
        x.set(2, false);
        CHECKS.fraction("three", x.sizes(0), x.sizes(1), 0, 1);
        x.set(2, true);
        CHECKS.fraction("all again", x.sizes(0), x.sizes(1), 29, 13);
    }

    private static void sizedOfFirstSet() {
        CHECKS.sentence("17", "told are those of the first such set (ROWS rising, by their first different ROW)");
        GuessBench x = Benches.of(1, row(3, 2), row(-3, 2));
        CHECKS.fraction("{0} of {0}, {1}", x.sized(0, 0), x.sized(0, 1), 3, 2);
        x = Benches.of(1, row(-3, 2), row(3, 2));
        CHECKS.fraction("{0} of {0}, {1}", x.sized(0, 0), x.sized(0, 1), -3, 2);
        x = Benches.of(1, row(5, 1), row(3, 1), row(5, 1), row(1, 1));
        CHECKS.fraction("{0} of {0}, {1}, {2}", x.sized(0, 0), x.sized(0, 1), 5, 1);
        x = Benches.of(1, row(1, 1), row(3, 1), row(5, 1), row(5, 1));
        CHECKS.fraction("{1} of {1}, {2}, {3}", x.sized(0, 0), x.sized(0, 1), 3, 1);
        x = Benches.two();
        CHECKS.fraction("{0, 1} of all, column 0", x.sized(0, 0), x.sized(0, 1), 1, 1);
        CHECKS.fraction("{0, 1} of all, column 1", x.sized(1, 0), x.sized(1, 1), 2, 1);
        // The first ROW decides before the second: {1, 2} is less as bits, and rows 1, 2 are nearer.
        x = Benches.of(2, row(3, 0, -2), row(0, -2, 1), row(-2, -2, -1), row(-1, -2, 0));
        CHECKS.fraction("sizes", x.sizes(0), x.sizes(1), 5, 1);
        CHECKS.fraction("{0, 3} before {1, 2}, column 0", x.sized(0, 0), x.sized(0, 1), 1, 2);
        CHECKS.fraction("{0, 3} before {1, 2}, column 1", x.sized(1, 0), x.sized(1, 1), -3, 2);
        x = Benches.of(2, row(3, -1, -1), row(1, 0, -1), row(0, 1, 0), row(2, 1, -2));
        CHECKS.fraction("sizes", x.sizes(0), x.sizes(1), 2, 1);
        CHECKS.fraction("{0, 3} before {1, 2}, column 0", x.sized(0, 0), x.sized(0, 1), -4, 3);
        CHECKS.fraction("{0, 3} before {1, 2}, column 1", x.sized(1, 0), x.sized(1, 1), -5, 3);
    }

    private static void sizedPastDependentSets() {
        CHECKS.sentence("17", "as many ROWS as there are COLUMNS, independent ones");
        GuessBench x = Benches.of(2, row(3, 1, 1), row(5, 1, 1), row(7, 1, -1));
        CHECKS.fraction("sizes", x.sizes(0), x.sizes(1), 2, 1);
        CHECKS.fraction("past {0, 1}, column 0", x.sized(0, 0), x.sized(0, 1), 5, 1);
        CHECKS.fraction("past {0, 1}, column 1", x.sized(1, 0), x.sized(1, 1), -2, 1);
        x = Benches.of(1, row(0, 0), row(7, 0), row(3, 1), row(5, 1));
        CHECKS.fraction("past rows of zeros", x.sized(0, 0), x.sized(0, 1), 3, 1);
        x = Benches.of(3, row(6, 1, 2, 3), row(12, 2, 4, 6), row(1, 0, 0, 0), row(4, 1, 0, 0), row(5, 0, 1, 0));
        CHECKS.fraction("sizes", x.sizes(0), x.sizes(1), 1, 1);
        CHECKS.fraction("past {0, 1, 2} and {0, 1, 3}, column 0", x.sized(0, 0), x.sized(0, 1), 4, 1);
        CHECKS.fraction("past {0, 1, 2} and {0, 1, 3}, column 1", x.sized(1, 0), x.sized(1, 1), 5, 1);
        CHECKS.fraction("past {0, 1, 2} and {0, 1, 3}, column 2", x.sized(2, 0), x.sized(2, 1), -8, 3);
    }

    private static void sizedPastRowsNotThere() {
        CHECKS.sentence("17", "all is of the ROWS that are THERE");
        GuessBench x = Benches.of(1, row(5, 1), row(3, 1), row(5, 1), row(1, 1));
        CHECKS.fraction("all", x.sized(0, 0), x.sized(0, 1), 5, 1);
        x.set(0, false);
        CHECKS.fraction("less the first: sizes", x.sizes(0), x.sizes(1), 4, 1);
        CHECKS.fraction("less the first", x.sized(0, 0), x.sized(0, 1), 3, 1);
        x.set(1, false);
        CHECKS.fraction("less two", x.sized(0, 0), x.sized(0, 1), 5, 1);
        x.set(2, false);
        CHECKS.fraction("the last", x.sized(0, 0), x.sized(0, 1), 1, 1);
    }

    private static void sizedOfOthers() {
        CHECKS.sentence("17", "NONE for others");
        for (int what = 0; what <= 1; what++) {
            for (int c : Checks.FAR_OFF) {
                CHECKS.due("column " + c, Benches.three(5, 6, 7).sized(c, what), -1);
            }
            CHECKS.due("column -1", Benches.two().sized(-1, what), -1);
            CHECKS.due("column 1 of one", Benches.one().sized(1, what), -1);
            CHECKS.due("column 2 of two", Benches.two().sized(2, what), -1);
            CHECKS.due("column 3 of three", Benches.three(5, 6, 7).sized(3, what), -1);
        }
    }

    private static void levelOfExactGuesses() {
        CHECKS.sentence("18", "LEVEL (of 0)");
        CHECKS.fraction("as many rows as columns", Benches.three(5, -5, 7).level(0), Benches.three(5, -5, 7).level(1), 0, 1);
        GuessBench x = Benches.of(1, row(3, 2), row(6, 4), row(9, 6));
        CHECKS.fraction("more rows", x.level(0), x.level(1), 0, 1);
        x = alike(24, -99, 9);
        CHECKS.fraction("24 like rows", x.level(0), x.level(1), 0, 1);
    }

    private static void levelAndRowsOfZeros() {
        CHECKS.sentence("18", "the greatest size of a MISS (of a ROW of zeros too)");
        GuessBench x = Benches.of(1, row(3, 1), row(5, 1), row(-7, 0));
        CHECKS.fraction("one column", x.level(0), x.level(1), 7, 1);
        x = Benches.of(3, row(5, 1, 0, 0), row(5, 0, 1, 0), row(5, 0, 0, 1), row(-99, 0, 0, 0));
        CHECKS.fraction("as many rows as columns, and zeros", x.level(0), x.level(1), 99, 1);
        x = Benches.of(1, row(99, 1), row(-99, 1), row(7, 0));
        CHECKS.fraction("beside greater misses", x.level(0), x.level(1), 99, 1);
    }

    private static void levelOfRowsThere() {
        CHECKS.sentence("18", "all is of the ROWS that are THERE");
        GuessBench x = Benches.of(1, row(3, 2), row(-3, 2), row(50, 0));
        CHECKS.fraction("all", x.level(0), x.level(1), 50, 1);
        x.set(2, false);
        CHECKS.fraction("two", x.level(0), x.level(1), 3, 1);
        x.set(1, false);
        CHECKS.fraction("one", x.level(0), x.level(1), 0, 1);
        x = plain();
        CHECKS.fraction("by one set of four", x.level(0), x.level(1), 29, 26);
        x.set(0, false);
        CHECKS.fraction("three of three", x.level(0), x.level(1), 0, 1);
    }

    private static void barZero() {
        CHECKS.sentence("19, 20", "a BAR (0 .. 50,000): 0");
        GuessBench x = plain();
        long[][] want = {{709, 678}, {809, 339}, {150, 113}};
        for (int c = 0; c < 3; c++) {
            CHECKS.fraction("barred 0, " + c, x.barred(0, c, 0), x.barred(0, c, 1), want[c][0], want[c][1]);
            CHECKS.fraction("weight " + c, x.weight(c, 0), x.weight(c, 1), want[c][0], want[c][1]);
        }
        CHECKS.fraction("cost 0", x.cost(0, 0), x.cost(0, 1), 841, 226);
        x = Benches.of(1, row(3, 2), row(-3, 2));
        CHECKS.fraction("a weight of 0", x.barred(0, 0, 0), x.barred(0, 0, 1), 0, 1);
        CHECKS.fraction("its cost", x.cost(0, 0), x.cost(0, 1), 18, 1);
        x = Benches.of(2, row(1, 2, 1), row(0, 1, 0));
        CHECKS.fraction("a weight of 0 of two", x.barred(0, 0, 0), x.barred(0, 0, 1), 0, 1);
        CHECKS.fraction("the other", x.barred(0, 1, 0), x.barred(0, 1, 1), 1, 1);
        CHECKS.fraction("exact: cost", x.cost(0, 0), x.cost(0, 1), 0, 1);
    }

    private static void barGreatest() {
        CHECKS.sentence("19, 20", "a BAR (0 .. 50,000): 50,000");
        GuessBench x = alike(24, 99, 9);
        CHECKS.fraction("42767", x.barred(42767, 0, 0), x.barred(42767, 0, 1), 1, 3888);
        CHECKS.fraction("cost 42767", x.cost(42767, 0), x.cost(42767, 1), 1829101823L, 7776);
        for (int bar : row(42768, 42769, 49999, 50000)) {
            CHECKS.fraction("barred " + bar, x.barred(bar, 0, 0), x.barred(bar, 0, 1), 0, 1);
            CHECKS.fraction("cost " + bar, x.cost(bar, 0), x.cost(bar, 1), 235224, 1);
        }
        x = alike(24, -99, 9);
        CHECKS.fraction("below 0, 42767", x.barred(42767, 0, 0), x.barred(42767, 0, 1), -1, 3888);
        x = plain();
        for (int c = 0; c < 3; c++) {
            CHECKS.fraction("three columns, " + c, x.barred(50000, c, 0), x.barred(50000, c, 1), 0, 1);
        }
        CHECKS.fraction("three columns, cost", x.cost(50000, 0), x.cost(50000, 1), 102, 1);
    }

    private static void barBeyond() {
        CHECKS.sentence("19, 20", "a BAR (0 .. 50,000). NONE for others");
        int[] bars = {50001, 50002, 65536, 100000, 65536 + 3, 0x40000000, Checks.GREATEST,
            -1, -2, -3, -50000, -65536, Checks.LEAST, Checks.LEAST + 1};
        for (int bar : bars) {
            for (int what = 0; what <= 1; what++) {
                CHECKS.due("barred " + bar, Benches.one().barred(bar, 0, what), -1);
                CHECKS.due("barred " + bar, plain().barred(bar, 2, what), -1);
                CHECKS.due("cost " + bar, Benches.one().cost(bar, what), -1);
                CHECKS.due("cost " + bar, plain().cost(bar, what), -1);
            }
        }
    }

    private static void barredOfOthers() {
        CHECKS.sentence("19", "NONE for others");
        for (int what = 0; what <= 1; what++) {
            for (int bar : row(0, 3, 50000)) {
                for (int c : Checks.FAR_OFF) {
                    CHECKS.due("column " + c, Benches.three(5, 6, 7).barred(bar, c, what), -1);
                }
                CHECKS.due("column -1", Benches.two().barred(bar, -1, what), -1);
                CHECKS.due("column 1 of one", Benches.one().barred(bar, 1, what), -1);
                CHECKS.due("column 2 of two", Benches.two().barred(bar, 2, what), -1);
                CHECKS.due("column 3 of three", Benches.three(5, 6, 7).barred(bar, 3, what), -1);
            }
        }
    }

    /** Each column in turn is the last that is not 0, above 0 and below; the others are held at 0. */
    private static void barredOneAlone() {
        CHECKS.sentence("19, 20", "BARRED (just below the greatest CORNER, and at it)");
        for (int told : row(7, -7)) {
            for (int alone = 0; alone < 3; alone++) {
                GuessBench x = Benches.three(alone == 0 ? told : 2, alone == 1 ? told : -3, alone == 2 ? told : 1);
                long others = alone == 0 ? 10 : alone == 1 ? 5 : 13;
                for (int c = 0; c < 3; c++) {
                    long want = c == alone ? told / 7 : 0;
                    CHECKS.fraction("barred 12, " + c, x.barred(12, c, 0), x.barred(12, c, 1), want, 1);
                    CHECKS.fraction("barred 14, " + c, x.barred(14, c, 0), x.barred(14, c, 1), 0, 1);
                }
                CHECKS.fraction("cost 12", x.cost(12, 0), x.cost(12, 1), others + 36 + 12, 1);
                CHECKS.fraction("cost 14", x.cost(14, 0), x.cost(14, 1), others + 49, 1);
            }
        }
    }

    private static void barredOfRowsThere() {
        CHECKS.sentence("19, 20", "all is of the ROWS that are THERE");
        GuessBench x = Benches.two();
        CHECKS.fraction("all", x.barred(1, 0, 0), x.barred(1, 0, 1), 7, 6);
        CHECKS.fraction("all, cost", x.cost(1, 0), x.cost(1, 1), 23, 6);
        x.set(2, false);
        CHECKS.fraction("two", x.barred(1, 0, 0), x.barred(1, 0, 1), 1, 2);
        CHECKS.fraction("two, cost", x.cost(1, 0), x.cost(1, 1), 5, 2);
        x.set(2, true);
        CHECKS.fraction("all again", x.barred(1, 0, 0), x.barred(1, 0, 1), 7, 6);
        CHECKS.fraction("all again, cost", x.cost(1, 0), x.cost(1, 1), 23, 6);
    }

    private static void cornerWhereAWeightBecomesZero() {
        CHECKS.sentence("19, 21", "at which a WEIGHT of BARRED is 0");
        GuessBench x = plain();
        CHECKS.fraction("at corner 6", x.barred(6, 0, 0), x.barred(6, 0, 1), 0, 1);
        CHECKS.fraction("at corner 6", x.barred(6, 1, 0), x.barred(6, 1, 1), 2, 1);
        CHECKS.fraction("at corner 6", x.barred(6, 2, 0), x.barred(6, 2, 1), 1, 1);
        CHECKS.due("a little below it", x.barred(5, 0, 0) > 0, true);
        CHECKS.fraction("at corner 80", x.barred(80, 2, 0), x.barred(80, 2, 1), 0, 1);
        CHECKS.due("a little below it", x.barred(79, 2, 0) > 0, true);
    }
}
