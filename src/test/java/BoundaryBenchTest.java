/** The boundary cases that promises 1 to 6 and 23, and the limits of COLUMNS, ROWS and calls, name. */
public final class BoundaryBenchTest {
    private static final Checks CHECKS = new Checks();
    private static final int[] NOT_STARTED = {
        Checks.LEAST, Checks.LEAST + 1, Checks.LEAST + 2, -256, -3, -2, -1, 0,
        4, 5, 257, 65537, 0x40000001, Checks.GREATEST - 1, Checks.GREATEST
    };

    public static void main(String[] args) {
        newHasOneColumn();
        newHasNoRows();
        newOnesAreApart();
        startsOneToThree();
        startLeavesNoRows();
        startRefusesOthers();
        refusedStartDoesNothing();
        rowsAreNumberedAsTheyCome();
        rowsAreThere();
        rowBoundsAreIn();
        rowsOutOfBounds();
        otherColumnsDontMatter();
        otherColumnsAreNotKept();
        twentyFourRows();
        droppedRowsCountToo();
        refusedRowDoesNothing();
        setDropsAndTakesBack();
        setOfNone();
        setOfWhatIsSo();
        atOfColumns();
        atOfTold();
        atWithout();
        atOfDropped();
        thereOfNone();
        thereOfDropped();
        counts();
        countOfOthers();
        fiveHundredAndTwelveCalls();
        CHECKS.end();
    }

    private static GuessBench full(int columns) {
        GuessBench x = new GuessBench();
        x.start(columns);
        for (int r = 0; r < 24; r++) {
            x.row(r - 12, r % 10, 9 - r % 7, r % 5 - 2);
        }
        return x;
    }

    private static void newHasOneColumn() {
        CHECKS.sentence("1", "One COLUMN");
        CHECKS.due("count 0", new GuessBench().count(0), 1);
        CHECKS.fraction("weight 0", new GuessBench().weight(0, 0), new GuessBench().weight(0, 1), 0, 1);
        CHECKS.due("weight 1", new GuessBench().weight(1, 0), -1);
        CHECKS.due("few 1", new GuessBench().few(1, 2), 1);
        CHECKS.due("few 2", new GuessBench().few(2, 2), -1);
        GuessBench x = new GuessBench();
        CHECKS.due("row", x.row(6, 3, 10, -10), 0);
        CHECKS.due("free", x.free(), 1);
        CHECKS.fraction("weight 0", x.weight(0, 0), x.weight(0, 1), 2, 1);
        CHECKS.due("at column 1", x.at(0, 1), 0);
    }

    private static void newHasNoRows() {
        CHECKS.sentence("1", "no ROWS");
        GuessBench x = new GuessBench();
        CHECKS.due("count 1", x.count(1), 0);
        CHECKS.due("count 2", x.count(2), 0);
        CHECKS.due("there 0", x.there(0), false);
        CHECKS.due("told 0", x.at(0, -1), 0);
        CHECKS.due("at 0", x.at(0, 0), 0);
        CHECKS.due("set 0", x.set(0, false), false);
        CHECKS.due("miss 0", x.miss(0, 0), -1);
        CHECKS.due("pull 0", x.pull(0, 0), -1);
        CHECKS.due("without 0", x.without(0, 0, 0), -1);
        CHECKS.due("far 0", x.far(0, 0, 0), -1);
        CHECKS.due("first row", x.row(1, 1, 0, 0), 0);
    }

    private static void newOnesAreApart() {
        CHECKS.sentence("1", "A new object");
        GuessBench x = full(3);
        CHECKS.due("another's rows", new GuessBench().count(1), 0);
        CHECKS.due("another's columns", new GuessBench().count(0), 1);
        new GuessBench().start(2);
        CHECKS.due("its own columns", x.count(0), 3);
        CHECKS.due("its own rows", x.count(1), 24);
    }

    private static void startsOneToThree() {
        CHECKS.sentence("2", "So many COLUMNS (1 .. 3)");
        for (int columns = 1; columns <= 3; columns++) {
            GuessBench x = new GuessBench();
            CHECKS.due("start " + columns, x.start(columns), true);
            CHECKS.due("count 0", x.count(0), columns);
            CHECKS.due("last weight", x.weight(columns - 1, 1), 1);
            CHECKS.due("weight behind", x.weight(columns, 1), -1);
            CHECKS.due("few of all", x.few(columns, 2), (1 << columns) - 1);
            CHECKS.due("few of more", x.few(columns + 1, 2), -1);
        }
    }

    private static void startLeavesNoRows() {
        CHECKS.sentence("2", "no ROWS");
        for (int before = 1; before <= 3; before++) {
            for (int columns = 1; columns <= 3; columns++) {
                int was = before;
                int now = columns;
                String got = Benches.answers(() -> {
                    GuessBench x = full(was);
                    x.set(0, false);
                    x.weight(0, 0);
                    x.sizes(0);
                    x.level(0);
                    x.corners();
                    x.start(now);
                    return x;
                });
                CHECKS.due("start " + columns + " after " + before, got, Benches.answers(() -> Benches.of(now)));
                GuessBench x = full(before);
                x.set(0, false);
                x.start(columns);
                CHECKS.due("row", x.row(5, 1, 1, 1), 0);
                CHECKS.due("there where a dropped one was", x.there(0), true);
                CHECKS.due("there", x.count(2), 1);
            }
        }
    }

    private static void startRefusesOthers() {
        CHECKS.sentence("2", "False .. for others");
        for (int columns : NOT_STARTED) {
            CHECKS.due("start " + columns, Benches.two().start(columns), false);
            CHECKS.due("start " + columns + " when new", new GuessBench().start(columns), false);
        }
    }

    private static void refusedStartDoesNothing() {
        CHECKS.sentence("2", "and nothing happens, for others");
        for (int columns : NOT_STARTED) {
            String got = Benches.answers(() -> {
                GuessBench x = Benches.two();
                x.row(9, 3, 1, 0);
                x.set(1, false);
                x.start(columns);
                return x;
            });
            String want = Benches.answers(() -> {
                GuessBench x = Benches.two();
                x.row(9, 3, 1, 0);
                x.set(1, false);
                return x;
            });
            CHECKS.due("start " + columns, got, want);
        }
    }

    private static void rowsAreNumberedAsTheyCome() {
        CHECKS.sentence("3", "its number");
        GuessBench x = Benches.of(2);
        CHECKS.due("row", x.row(1, 1, 1, 0), 0);
        CHECKS.due("row", x.row(1, 1, 1, 0), 1);
        x.set(0, false);
        x.set(1, false);
        CHECKS.due("row after dropped ones", x.row(1, 1, 1, 0), 2);
        CHECKS.due("refused", x.row(100, 1, 1, 0), -1);
        CHECKS.due("row after a refused one", x.row(1, 1, 1, 0), 3);
    }

    private static void rowsAreThere() {
        CHECKS.sentence("3", "A ROW, THERE");
        GuessBench x = Benches.one();
        x.set(2, false);
        CHECKS.due("row", x.row(6, 3, 0, 0), 3);
        CHECKS.due("there", x.there(3), true);
        CHECKS.due("the dropped one", x.there(2), false);
        CHECKS.due("count", x.count(2), 3);
    }

    private static void rowBoundsAreIn() {
        CHECKS.sentence("Terms", "a number of each COLUMN (-9 .. 9) and a TOLD one (-99 .. 99)");
        GuessBench x = Benches.of(3);
        CHECKS.due("told 99", x.row(99, 0, 0, 0), 0);
        CHECKS.due("told -99", x.row(-99, 0, 0, 0), 1);
        CHECKS.due("a 9", x.row(0, 9, 0, 0), 2);
        CHECKS.due("a -9", x.row(0, -9, 0, 0), 3);
        CHECKS.due("b 9", x.row(0, 0, 9, 0), 4);
        CHECKS.due("b -9", x.row(0, 0, -9, 0), 5);
        CHECKS.due("c 9", x.row(0, 0, 0, 9), 6);
        CHECKS.due("c -9", x.row(0, 0, 0, -9), 7);
        CHECKS.due("told 99", x.at(0, -1), 99);
        CHECKS.due("told -99", x.at(1, -1), -99);
        for (int c = 0; c < 3; c++) {
            CHECKS.due("9 in " + c, x.at(2 + 2 * c, c), 9);
            CHECKS.due("-9 in " + c, x.at(3 + 2 * c, c), -9);
        }
    }

    private static void rowsOutOfBounds() {
        CHECKS.sentence("3", "NONE: .. a number is out of its bounds");
        for (int number : new int[] {10, -10, 11, -11, 99, 256, -256, 265, Checks.LEAST, Checks.GREATEST}) {
            for (int columns = 1; columns <= 3; columns++) {
                CHECKS.due(columns + ": a " + number, Benches.of(columns).row(0, number, 0, 0), -1);
            }
            CHECKS.due("2: b " + number, Benches.of(2).row(0, 0, number, 0), -1);
            CHECKS.due("3: b " + number, Benches.of(3).row(0, 0, number, 0), -1);
            CHECKS.due("3: c " + number, Benches.of(3).row(0, 0, 0, number), -1);
        }
        for (int told : new int[] {100, -100, 101, 256, -256, 355, Checks.LEAST, Checks.GREATEST}) {
            for (int columns = 1; columns <= 3; columns++) {
                CHECKS.due(columns + ": told " + told, Benches.of(columns).row(told, 1, 1, 1), -1);
            }
        }
        CHECKS.due("all of them", Benches.of(3).row(100, 10, 10, 10), -1);
    }

    private static void otherColumnsDontMatter() {
        CHECKS.sentence("3", "numbers of COLUMNS that there are not don't matter");
        for (int number : new int[] {9, -9, 10, -10, 100, Checks.LEAST, Checks.GREATEST}) {
            CHECKS.due("1: b " + number, Benches.of(1).row(1, 1, number, 0), 0);
            CHECKS.due("1: c " + number, Benches.of(1).row(1, 1, 0, number), 0);
            CHECKS.due("2: c " + number, Benches.of(2).row(1, 1, 1, number), 0);
            CHECKS.due("1: all " + number, Benches.answers(() -> Benches.of(1, Benches.row(2, 1, number, number),
                    Benches.row(4, 2, 3, number), Benches.row(7, 3, number, 1))),
                    Benches.answers(Benches::one));
            CHECKS.due("2: all " + number, Benches.answers(() -> Benches.of(2, Benches.row(1, 1, 0, number),
                    Benches.row(2, 0, 1, 5), Benches.row(4, 1, 1, number))),
                    Benches.answers(Benches::two));
        }
    }

    private static void otherColumnsAreNotKept() {
        CHECKS.sentence("3", "numbers of COLUMNS that there are not don't matter");
        GuessBench x = Benches.of(1, Benches.row(3, 1, 7, 8));
        CHECKS.due("at column 1", x.at(0, 1), 0);
        CHECKS.due("at column 2", x.at(0, 2), 0);
        x.start(3);
        x.row(4, 1, 0, 0);
        CHECKS.due("at column 1 after a start", x.at(0, 1), 0);
        CHECKS.due("free after a start", x.free(), 1);
    }

    private static void twentyFourRows() {
        CHECKS.sentence("3", "NONE: there are 24");
        for (int columns = 1; columns <= 3; columns++) {
            GuessBench x = Benches.of(columns);
            for (int r = 0; r < 24; r++) {
                CHECKS.due("row " + r, x.row(1, 1, 1, 1), r);
            }
            CHECKS.due("row 24", x.row(1, 1, 1, 1), -1);
            CHECKS.due("once more", x.row(0, 0, 0, 0), -1);
            CHECKS.due("rows", x.count(1), 24);
            CHECKS.due("there", x.count(2), 24);
            x.start(columns);
            CHECKS.due("after a start", x.row(1, 1, 1, 1), 0);
        }
    }

    private static void droppedRowsCountToo() {
        CHECKS.sentence("3", "NONE: there are 24");
        GuessBench x = full(2);
        for (int r = 0; r < 24; r++) {
            x.set(r, false);
        }
        CHECKS.due("row with all dropped", x.row(1, 1, 1, 1), -1);
        CHECKS.due("rows", x.count(1), 24);
        CHECKS.due("there", x.count(2), 0);
        CHECKS.due("the last taken back", x.set(23, true), true);
        CHECKS.due("there", x.count(2), 1);
    }

    private static void refusedRowDoesNothing() {
        CHECKS.sentence("3", "NONE");
        String want = Benches.answers(Benches::two);
        int[][] refused = {{100, 1, 1, 0}, {-100, 1, 1, 0}, {0, 10, 1, 0}, {0, 1, -10, 0}};
        for (int[] row : refused) {
            CHECKS.due("after a refused row", Benches.answers(() -> {
                GuessBench x = Benches.two();
                Benches.add(x, row);
                return x;
            }), want);
        }
        CHECKS.due("after row 24", Benches.answers(() -> {
            GuessBench x = full(3);
            x.row(99, 9, 9, 9);
            return x;
        }), Benches.answers(() -> full(3)));
    }

    private static void setDropsAndTakesBack() {
        CHECKS.sentence("4", "A ROW is THERE from now on, or not");
        for (int r : new int[] {0, 11, 23}) {
            GuessBench x = full(3);
            CHECKS.due("drop " + r, x.set(r, false), true);
            CHECKS.due("there", x.there(r), false);
            CHECKS.due("count", x.count(2), 23);
            CHECKS.due("take back " + r, x.set(r, true), true);
            CHECKS.due("there", x.there(r), true);
            CHECKS.due("count", x.count(2), 24);
            CHECKS.due("as before", Benches.answers(() -> {
                GuessBench y = full(3);
                y.set(r, false);
                y.level(0);
                y.sizes(0);
                y.corners();
                y.set(r, true);
                return y;
            }), Benches.answers(() -> full(3)));
        }
    }

    private static void setOfNone() {
        CHECKS.sentence("4", "False: there is none such");
        for (boolean there : new boolean[] {false, true}) {
            for (int row : Checks.FAR_OFF) {
                CHECKS.due("set " + row, full(3).set(row, there), false);
                CHECKS.due("set " + row + " when new", new GuessBench().set(row, there), false);
            }
            CHECKS.due("set -1", full(3).set(-1, there), false);
            CHECKS.due("set behind the last", Benches.one().set(3, there), false);
            CHECKS.due("set 0 when new", new GuessBench().set(0, there), false);
            GuessBench x = full(3);
            x.set(0, false);
            x.start(3);
            CHECKS.due("set of a row before the start", x.set(0, there), false);
            CHECKS.due("there stays", x.count(2), 0);
            CHECKS.due("nothing happens", Benches.answers(() -> {
                GuessBench y = Benches.two();
                y.set(3, there);
                y.set(-1, there);
                y.set(24, there);
                return y;
            }), Benches.answers(Benches::two));
        }
    }

    private static void setOfWhatIsSo() {
        CHECKS.sentence("4", "False: .. or it is so already");
        GuessBench x = Benches.one();
        CHECKS.due("there already", x.set(0, true), false);
        CHECKS.due("count", x.count(2), 3);
        x.set(0, false);
        CHECKS.due("dropped already", x.set(0, false), false);
        CHECKS.due("count", x.count(2), 2);
        x.set(0, true);
        CHECKS.due("taken back already", x.set(0, true), false);
        CHECKS.due("count", x.count(2), 3);
        CHECKS.due("it changes nothing", x.weight(0, 0), 31);
    }

    private static void atOfColumns() {
        CHECKS.sentence("5", "The number of a ROW in COLUMN c");
        GuessBench x = Benches.of(3, Benches.row(-99, 9, -8, 7), Benches.row(5, 1, 2, 3));
        int[][] want = {{9, -8, 7}, {1, 2, 3}};
        for (int r = 0; r < 2; r++) {
            for (int c = 0; c < 3; c++) {
                CHECKS.due("at " + r + " " + c, x.at(r, c), want[r][c]);
            }
        }
        GuessBench y = full(3);
        CHECKS.due("at 23 0", y.at(23, 0), 3);
        CHECKS.due("at 23 1", y.at(23, 1), 7);
        CHECKS.due("at 23 2", y.at(23, 2), 1);
    }

    private static void atOfTold() {
        CHECKS.sentence("5", "(NONE: the TOLD one)");
        GuessBench x = Benches.of(3, Benches.row(-99, 9, -8, 7), Benches.row(5, 1, 2, 3));
        CHECKS.due("told 0", x.at(0, GuessBench.NONE), -99);
        CHECKS.due("told 1", x.at(1, -1), 5);
        CHECKS.due("told 23", full(1).at(23, -1), 11);
    }

    private static void atWithout() {
        CHECKS.sentence("5", "0 without");
        GuessBench x = Benches.of(2, Benches.row(-99, 9, -8, 7), Benches.row(5, 1, 2, 3));
        for (int row : Checks.FAR_OFF) {
            for (int c = -1; c <= 2; c++) {
                CHECKS.due("at " + row + " " + c, x.at(row, c), 0);
            }
            CHECKS.due("at 1 " + row, x.at(1, row), 0);
        }
        CHECKS.due("row 2", x.at(2, 0), 0);
        CHECKS.due("row 2, told", x.at(2, -1), 0);
        CHECKS.due("row -1", x.at(-1, 0), 0);
        CHECKS.due("row -1, told", x.at(-1, -1), 0);
        CHECKS.due("column 2 of two", x.at(0, 2), 0);
        CHECKS.due("column 3 is not the next row's", x.at(0, 3), 0);
        CHECKS.due("column -2 is not the row's before", x.at(1, -2), 0);
        CHECKS.due("column -3", x.at(1, -3), 0);
        CHECKS.due("column 3 of three", full(3).at(1, 3), 0);
        x.start(2);
        CHECKS.due("after a start", x.at(0, 0), 0);
        CHECKS.due("after a start, told", x.at(0, -1), 0);
    }

    private static void atOfDropped() {
        CHECKS.sentence("5", "The number of a ROW");
        GuessBench x = Benches.of(2, Benches.row(-99, 9, -8));
        x.set(0, false);
        CHECKS.due("of a dropped row", x.at(0, 1), -8);
        CHECKS.due("told of a dropped row", x.at(0, -1), -99);
    }

    private static void thereOfNone() {
        CHECKS.sentence("6", "Whether a ROW is THERE");
        for (int row : Checks.FAR_OFF) {
            CHECKS.due("there " + row, full(3).there(row), false);
        }
        CHECKS.due("there -1", full(3).there(-1), false);
        CHECKS.due("there 3 of three", Benches.one().there(3), false);
        CHECKS.due("there 0 when new", new GuessBench().there(0), false);
        GuessBench x = full(3);
        x.start(3);
        CHECKS.due("there 23 after a start", x.there(23), false);
        CHECKS.due("there 0 after a start", x.there(0), false);
    }

    private static void thereOfDropped() {
        CHECKS.sentence("Terms", "it is THERE till it is dropped, and again when it is taken back");
        GuessBench x = full(1);
        for (int r : new int[] {0, 23}) {
            CHECKS.due("there", x.there(r), true);
            x.set(r, false);
            CHECKS.due("dropped", x.there(r), false);
            CHECKS.due("its neighbour", x.there(r == 0 ? 1 : 22), true);
            x.set(r, true);
            CHECKS.due("taken back", x.there(r), true);
        }
    }

    private static void counts() {
        CHECKS.sentence("23", "0 COLUMNS, 1 ROWS, 2 THERE");
        GuessBench x = Benches.of(3);
        CHECKS.due("columns", x.count(0), 3);
        CHECKS.due("no rows", x.count(1), 0);
        CHECKS.due("none there", x.count(2), 0);
        x.row(1, 1, 1, 1);
        x.row(1, 1, 1, 1);
        x.set(0, false);
        CHECKS.due("rows", x.count(1), 2);
        CHECKS.due("there", x.count(2), 1);
        x.set(1, false);
        CHECKS.due("rows", x.count(1), 2);
        CHECKS.due("there", x.count(2), 0);
        CHECKS.due("all rows", full(2).count(1), 24);
        CHECKS.due("all there", full(2).count(2), 24);
    }

    private static void countOfOthers() {
        CHECKS.sentence("23", "NONE for others");
        for (int what : Checks.FAR_OFF) {
            CHECKS.due("count " + what, full(2).count(what), -1);
        }
        CHECKS.due("count -1", full(2).count(-1), -1);
        CHECKS.due("count 3", full(2).count(3), -1);
        CHECKS.due("count 4", full(2).count(4), -1);
    }

    /** All 512 calls count, also those that change the rows and those that find the most. */
    private static void fiveHundredAndTwelveCalls() {
        CHECKS.sentence("What it is", "at most 512 calls after it has been made");
        GuessBench x = new GuessBench();
        x.start(3);
        for (int r = 0; r < 24; r++) {
            x.row(r - 12, r % 10, 9 - r % 7, r % 5 - 2);
        }
        GuessBench fresh = full(3);
        long level = fresh.level(0);
        long sizes = fresh.sizes(1);
        int corners = fresh.corners();
        for (int turn = 0; turn < 97; turn++) {
            int r = turn % 24;
            CHECKS.due("call " + (26 + 5 * turn), x.set(r, false), true);
            CHECKS.due("call " + (27 + 5 * turn), x.set(r, true), true);
            CHECKS.due("call " + (28 + 5 * turn), x.level(0), level);
            CHECKS.due("call " + (29 + 5 * turn), x.sizes(1), sizes);
            CHECKS.due("call " + (30 + 5 * turn), x.corners(), corners);
        }
        CHECKS.due("call 511", x.set(23, false), true);
        CHECKS.due("call 512", x.count(2), 23);
    }
}
