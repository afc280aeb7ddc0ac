/** The boundary cases that promises 21 and 22 and the term CORNERS name. */
public final class BoundaryCornerTest {
    private static final Checks CHECKS = new Checks();

    public static void main(String[] args) {
        aboveZero();
        noneAtAll();
        eachOnce();
        fromTheGreatestDown();
        anyNumbers();
        aboveIt();
        belowIt();
        onBothSides();
        staysZero();
        standsStill();
        beyondTheBars();
        noOthers();
        rowsThere();
        CHECKS.end();
    }

    private static int[] row(int... numbers) {
        return numbers;
    }

    /** All corners, each as two numbers; the count is asked first, and the one beyond is NONE. */
    private static void corners(String state, GuessBench x, long... want) {
        CHECKS.due(state + ": corners", x.corners(), want.length / 2);
        for (int i = 0; 2 * i < want.length; i++) {
            CHECKS.fraction(state + ": corner " + i, x.corner(i, 0), x.corner(i, 1), want[2 * i], want[2 * i + 1]);
        }
        CHECKS.fraction(state + ": beyond", x.corner(want.length / 2, 0), x.corner(want.length / 2, 1), -1, -1);
    }

    private static void aboveZero() {
        CHECKS.sentence("21, 22", "the BARS (any numbers) above 0");
        GuessBench x = Benches.of(2, row(1, 2, 1), row(0, 1, 0));
        CHECKS.fraction("0 at the BAR 0", x.barred(0, 0, 0), x.barred(0, 0, 1), 0, 1);
        CHECKS.due("and not a little above", x.barred(1, 0, 0), 3);
        corners("two columns", x, 4, 1, 2, 3);
        // The BAR 0 is no corner either where a weight is 0 from there on.
        x = Benches.of(2, row(0, 1, 0), row(3, 1, 1), row(3, 1, 1));
        CHECKS.fraction("0 at the BAR 0", x.barred(0, 0, 0), x.barred(0, 0, 1), 0, 1);
        CHECKS.fraction("and a little above", x.barred(1, 0, 0), x.barred(1, 0, 1), 0, 1);
        corners("0 from the BAR 0 on", x, 12, 1);
        corners("a small one", Benches.of(1, row(1, 1)), 2, 1);
    }

    private static void noneAtAll() {
        CHECKS.sentence("21, 22", "How many CORNERS (none). NONE without");
        corners("a weight that is always 0", Benches.of(1, row(3, 2), row(-3, 2)));
        corners("told numbers of 0", Benches.of(3, row(0, 1, 0, 0), row(0, 0, 1, 0), row(0, 0, 0, 1)));
        corners("a miss that no weight makes less", Benches.of(2, row(99, 0, 0), row(0, 1, 2), row(0, 2, 1)));
        CHECKS.due("the count is 0, not NONE", Benches.of(1, row(0, 9)).corners(), 0);
    }

    private static void eachOnce() {
        CHECKS.sentence("21, 22", "each once");
        corners("three at once", Benches.three(5, -5, 5), 10, 1);
        corners("two at once, then one", Benches.three(5, 2, -5), 10, 1, 4, 1);
        corners("one, then two at once", Benches.three(2, 7, 2), 14, 1, 4, 1);
        corners("two columns at once", Benches.of(2, row(7, 2, 0), row(7, 0, 2)), 28, 1);
        // One weight leaves 0 at the BAR 2 on both sides of it, while others change there too.
        corners("several changes at one", Benches.of(3, row(-1, 1, -1, 1), row(2, 3, -2, 2), row(4, 3, -1, 3)),
                34, 1, 26, 3, 2, 1, 6, 5, 6, 19);
    }

    private static void fromTheGreatestDown() {
        CHECKS.sentence("21, 22", "from the greatest down");
        corners("rising columns", Benches.three(1, 2, 3), 6, 1, 4, 1, 2, 1);
        corners("falling columns", Benches.three(3, 2, 1), 6, 1, 4, 1, 2, 1);
        corners("mixed columns", Benches.three(-2, 3, 1), 6, 1, 4, 1, 2, 1);
        corners("by value, not by numerator", Benches.of(3, row(2, 1, -1, 3), row(-4, 2, 1, -6), row(9, 0, 3, 1),
                row(1, -1, 1, 1)), 80, 1, 617, 13, 6, 1);
        corners("great numerators last", Benches.of(3, row(5, 9, 9, 9), row(7, 9, 9, 8), row(-3, 9, 8, 9)),
                168, 1, 4352, 451, 882, 451);
    }

    private static void anyNumbers() {
        CHECKS.sentence("21, 22", "the BARS (any numbers)");
        corners("nine of them", Benches.of(3, row(-2, 2, 3, -2), row(3, -1, -1, 2), row(3, -2, -3, -2)),
                36, 1, 80, 17, 64, 15, 4, 1, 7, 2, 20, 7, 18, 31, 4, 9, 4, 11);
        corners("seven of them", Benches.of(3, row(3, 2, 1, 1), row(0, 1, 3, 0), row(2, -1, -2, 0)),
                8, 1, 68, 13, 13, 3, 4, 1, 12, 29, 4, 11, 4, 15);
    }

    private static void aboveIt() {
        CHECKS.sentence("21", "is not 0 for all BARS a little above it");
        // From 4 down to 20/7 weight 2 is 0, above 4 it is not; no other weight is 0 near 4.
        GuessBench x = Benches.of(3, row(-2, 2, 3, -2), row(3, -1, -1, 2), row(3, -2, -3, -2));
        CHECKS.fraction("at 4", x.barred(4, 2, 0), x.barred(4, 2, 1), 0, 1);
        CHECKS.fraction("the others at 4", x.barred(4, 0, 0), x.barred(4, 1, 0), -1, -1);
        CHECKS.fraction("corner 3", x.corner(3, 0), x.corner(3, 1), 4, 1);
    }

    private static void belowIt() {
        CHECKS.sentence("21", "or for all a little below it");
        GuessBench x = Benches.of(1, row(3, 2));
        CHECKS.fraction("a little above", x.barred(13, 0, 0), x.barred(13, 0, 1), 0, 1);
        CHECKS.fraction("at it", x.barred(12, 0, 0), x.barred(12, 0, 1), 0, 1);
        CHECKS.fraction("a little below", x.barred(11, 0, 0), x.barred(11, 0, 1), 1, 8);
        corners("one column", x, 12, 1);
        corners("one column, below 0", Benches.of(1, row(-3, 2)), 12, 1);
    }

    private static void onBothSides() {
        CHECKS.sentence("21", "is 0, and is not 0 .. above it, or .. below it (neither side is 0)");
        GuessBench x = Benches.of(3, row(-1, 1, -1, 1), row(2, 3, -2, 2), row(4, 3, -1, 3));
        CHECKS.fraction("weight 0 a little above 2", x.barred(3, 0, 0), x.barred(3, 0, 1), 1, 10);
        CHECKS.fraction("weight 0 at 2", x.barred(2, 0, 0), x.barred(2, 0, 1), 0, 1);
        CHECKS.fraction("weight 0 a little below 2", x.barred(1, 0, 0), x.barred(1, 0, 1), 12, 7);
        CHECKS.fraction("corner 2", x.corner(2, 0), x.corner(2, 1), 2, 1);
    }

    private static void staysZero() {
        CHECKS.sentence("21", "and is not 0 (else it is none)");
        corners("a weight that stays 0", Benches.of(2, row(5, 1, 0), row(0, 0, 1)), 10, 1);
        corners("two that stay 0", Benches.three(0, 0, -7), 14, 1);
    }

    /** A weight that is the same at all bars of a pattern of signs never runs into 0 there. */
    private static void standsStill() {
        CHECKS.sentence("21", "at which a WEIGHT of BARRED is 0 (one that does not change with the BAR is not)");
        // Products 2, 1 and 1, 1: with both weights above 0 weight 0 is the same at every bar.
        GuessBench x = Benches.of(2, row(1, 1, 0), row(4, 1, 1));
        CHECKS.fraction("weight 0 at 0", x.barred(0, 0, 0), x.barred(0, 0, 1), 1, 1);
        CHECKS.fraction("weight 0 at 3", x.barred(3, 0, 0), x.barred(3, 0, 1), 1, 1);
        corners("one that stands still from 0 on", x, 10, 1, 6, 1);
        corners("and is below 0", Benches.of(2, row(-1, 1, 0), row(-4, 1, 1)), 10, 1, 6, 1);
        // Weight 1 is 0 at every bar; with it below 0 weight 0 would stand still.
        x = Benches.of(3, row(-3, 1, 0, 0), row(-3, 1, 1, 0), row(-4, 0, 0, 1));
        CHECKS.fraction("weight 1 at 0", x.barred(0, 1, 0), x.barred(0, 1, 1), 0, 1);
        CHECKS.fraction("weight 1 at 1", x.barred(1, 1, 0), x.barred(1, 1, 1), 0, 1);
        corners("below 0 in a pattern that is never right", x, 12, 1, 8, 1);
        corners("above 0 in a pattern that is never right",
                Benches.of(3, row(3, 1, 0, 0), row(3, 1, 1, 0), row(4, 0, 0, 1)), 12, 1, 8, 1);
        corners("above 0, beside two that change",
                Benches.of(3, row(1, -1, -1, 1), row(-1, 0, 0, -1), row(2, -1, 0, 0), row(3, 0, -1, 1)),
                10, 1, 4, 1);
        corners("below 0, beside two that change",
                Benches.of(3, row(-1, -1, -1, 1), row(1, 0, 0, -1), row(-2, -1, 0, 0), row(-3, 0, -1, 1)),
                10, 1, 4, 1);
    }

    private static void beyondTheBars() {
        CHECKS.sentence("21, 22", "the BARS (any numbers): the greatest that there can be");
        GuessBench x = new GuessBench();
        GuessBench y = Benches.of(3);
        for (int r = 0; r < 24; r++) {
            x.row(-99, 9, 0, 0);
            y.row(99, r == 0 ? 8 : 9, r == 1 ? 8 : 9, r == 2 ? 8 : 9);
        }
        corners("24 rows", x, 42768, 1);
        corners("24 rows of three columns", y, 42570, 1);
    }

    private static void noOthers() {
        CHECKS.sentence("22", "NONE without, or for others");
        for (int what = 0; what <= 1; what++) {
            for (int i : Checks.FAR_OFF) {
                CHECKS.due("corner " + i, Benches.three(1, 2, 3).corner(i, what), -1);
            }
            CHECKS.due("corner -1", Benches.three(1, 2, 3).corner(-1, what), -1);
            CHECKS.due("corner 3 of three", Benches.three(1, 2, 3).corner(3, what), -1);
            CHECKS.due("corner 1 of one", Benches.one().corner(1, what), -1);
            CHECKS.due("corner 0 of none", Benches.of(1, row(0, 9)).corner(0, what), -1);
            CHECKS.due("corner -1 of none", Benches.of(1, row(0, 9)).corner(-1, what), -1);
        }
        GuessBench x = Benches.three(1, 2, 3);
        CHECKS.due("three of them", x.corners(), 3);
        x.set(2, false);
        CHECKS.due("not free any more", x.corner(0, 0), -1);
        x = Benches.three(1, 2, 3);
        CHECKS.due("three of them", x.corners(), 3);
        x.start(1);
        x.row(7, 1, 0, 0);
        CHECKS.fraction("one of one", x.corner(0, 0), x.corner(0, 1), 14, 1);
        CHECKS.fraction("the others are gone", x.corner(1, 0), x.corner(2, 0), -1, -1);
    }

    private static void rowsThere() {
        CHECKS.sentence("21, 22", "all is of the ROWS that are THERE");
        GuessBench x = Benches.two();
        corners("all", x, 12, 1, 8, 1);
        x.set(0, false);
        corners("two", x, 12, 1, 4, 1);
        x.set(0, true);
        x.set(1, false);
        corners("two others", x, 10, 1, 6, 1);
        x.row(0, 0, 0, 0);
        corners("and zeros", x, 10, 1, 6, 1);
    }
}
