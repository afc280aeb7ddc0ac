import java.util.function.Supplier;

/** Benches to ask, and all that one of them tells as a text. */
final class Benches {
    private Benches() {
    }

    /** Rows of a told number and up to three numbers; what is left away is 0. */
    static GuessBench of(int columns, int[]... rows) {
        GuessBench x = new GuessBench();
        x.start(columns);
        for (int[] row : rows) {
            add(x, row);
        }
        return x;
    }

    static int add(GuessBench x, int... row) {
        return x.row(row[0], row[1], row.length > 2 ? row[2] : 0, row.length > 3 ? row[3] : 0);
    }

    static int[] row(int... numbers) {
        return numbers;
    }

    /** One column, weight 31/14. */
    static GuessBench one() {
        return of(1, row(2, 1), row(4, 2), row(7, 3));
    }

    /** Two columns, weights 4/3 and 7/3. */
    static GuessBench two() {
        return of(2, row(1, 1, 0), row(2, 0, 1), row(4, 1, 1));
    }

    /** Three columns of which each has a row of its own. */
    static GuessBench three(int a, int b, int c) {
        return of(3, row(a, 1, 0, 0), row(b, 0, 1, 0), row(c, 0, 0, 1));
    }

    /** Two columns that are the same: FREE is 1. */
    static GuessBench same() {
        return of(2, row(2, 1, 1), row(4, 2, 2));
    }

    /**
     * Every answer to every question with arguments in range and just outside of it. No bench is
     * asked more than 512 times, since later answers are free: so each block has a new one.
     */
    static String answers(Supplier<GuessBench> maker) {
        StringBuilder text = new StringBuilder();
        GuessBench x = maker.get();
        for (int what = -1; what <= 3; what++) {
            put(text, x.count(what), x.sum(what), x.sizes(what), x.level(what));
        }
        put(text, x.free(), x.corners());
        for (int what = 0; what <= 2; what++) {
            columnAnswers(text, maker.get(), what);
        }
        for (int r = -1; r <= 24; r++) {
            rowAnswers(text, maker.get(), r);
        }
        return text.toString();
    }

    private static void columnAnswers(StringBuilder text, GuessBench x, int what) {
        for (int c = -1; c <= 3; c++) {
            put(text, x.weight(c, what), x.few(c, what), x.sized(c, what));
            put(text, x.barred(0, c, what), x.barred(3, c, what), x.barred(50000, c, what));
        }
        put(text, x.cost(0, what), x.cost(3, what), x.cost(50000, what));
        for (int i = -1; i <= 24; i++) {
            put(text, x.corner(i, what), x.half(i, what));
        }
    }

    private static void rowAnswers(StringBuilder text, GuessBench x, int r) {
        put(text, x.there(r) ? 1 : 0);
        for (int what = 0; what <= 2; what++) {
            put(text, x.miss(r, what), x.pull(r, what));
        }
        for (int c = -1; c <= 3; c++) {
            put(text, x.at(r, c), x.without(r, c, 0), x.without(r, c, 1), x.far(r, c, 0), x.far(r, c, 1));
        }
    }

    private static void put(StringBuilder text, long... all) {
        for (long one : all) {
            text.append(one).append(' ');
        }
    }
}
