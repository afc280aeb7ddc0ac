import java.util.ArrayList;
import java.util.List;
import java.util.function.Supplier;

/** "Fractions are told in lowest terms: what 0 the numerator, 1 the denominator (positive; of 0: 1)." */
public final class BoundaryFractionTest {
    private static final Checks CHECKS = new Checks();
    private static final int[] OTHER_WHATS = {
        Checks.LEAST, Checks.LEAST + 1, -65536, -256, -3, -2, -1, 3, 4, 24, 256, 257, 65536, 65537,
        0x40000000, Checks.GREATEST - 1, Checks.GREATEST
    };

    private interface Ask {
        long of(GuessBench x, int what);
    }

    /** A question of a fraction; what 2 is a set for few and half, and nothing for the others. */
    private record Question(String call, boolean set, Ask ask) {
    }

    public static void main(String[] args) {
        lowestTerms();
        positiveDenominator();
        zeroOverOne();
        wholeOverOne();
        otherWhats();
        otherWhatsWhereNothingIsTold();
        CHECKS.end();
    }

    private static int[] row(int... numbers) {
        return numbers;
    }

    private static List<Question> questions(int columns, int rows) {
        List<Question> all = new ArrayList<>();
        ask(all, "sum", GuessBench::sum);
        ask(all, "sizes", GuessBench::sizes);
        ask(all, "level", GuessBench::level);
        for (int bar : row(0, 1, 2, 6, 50000)) {
            ask(all, "cost " + bar, (x, what) -> x.cost(bar, what));
        }
        for (int i = 0; i < 3; i++) {
            int at = i;
            ask(all, "corner " + i, (x, what) -> x.corner(at, what));
        }
        for (int c = 0; c < columns; c++) {
            columnQuestions(all, c);
        }
        for (int many = 0; many <= columns; many++) {
            int so = many;
            all.add(new Question("few " + so, true, (x, what) -> x.few(so, what)));
        }
        for (int many = 0; many <= rows; many++) {
            int so = many;
            all.add(new Question("half " + so, true, (x, what) -> x.half(so, what)));
        }
        for (int r = 0; r < rows; r++) {
            rowQuestions(all, r, columns);
        }
        return all;
    }

    private static void columnQuestions(List<Question> all, int c) {
        ask(all, "weight " + c, (x, what) -> x.weight(c, what));
        ask(all, "sized " + c, (x, what) -> x.sized(c, what));
        for (int bar : row(0, 1, 2, 6, 50000)) {
            ask(all, "barred " + bar + " " + c, (x, what) -> x.barred(bar, c, what));
        }
    }

    private static void rowQuestions(List<Question> all, int r, int columns) {
        ask(all, "miss " + r, (x, what) -> x.miss(r, what));
        ask(all, "pull " + r, (x, what) -> x.pull(r, what));
        for (int c = 0; c < columns; c++) {
            int at = c;
            ask(all, "without " + r + " " + c, (x, what) -> x.without(r, at, what));
            ask(all, "far " + r + " " + c, (x, what) -> x.far(r, at, what));
        }
    }

    private static void ask(List<Question> all, String call, Ask ask) {
        all.add(new Question(call, false, ask));
    }

    private static long divisor(long a, long b) {
        return b == 0 ? Math.abs(a) : divisor(b, a % b);
    }

    /** States where nearly all is told, with signs of both kinds and sums that have common divisors. */
    private static List<Supplier<GuessBench>> states() {
        List<Supplier<GuessBench>> all = new ArrayList<>();
        all.add(Benches::one);
        all.add(() -> Benches.of(1, row(-2, 2), row(4, -6), row(-8, 4), row(6, 0)));
        all.add(() -> Benches.of(1, row(3, 2), row(-3, 2)));
        all.add(Benches::two);
        all.add(Benches::same);
        all.add(() -> Benches.of(2, row(6, 4, -2), row(-8, 2, 6), row(-4, -6, 8), row(10, 0, 4)));
        all.add(() -> Benches.of(2, row(-9, -3, -9), row(-27, -9, 6), row(33, 3, 3), row(12, -6, -9)));
        all.add(() -> Benches.three(6, -4, 2));
        all.add(() -> Benches.of(3, row(2, 1, -1, 3), row(-4, 2, 1, -6), row(9, 0, 3, 1), row(1, -1, 1, 1)));
        all.add(() -> Benches.of(3, row(-20, 2, -2, 6), row(-40, 4, 2, -8), row(90, 0, 6, 2), row(10, -2, 2, 2),
                row(-30, -4, -8, -6)));
        all.add(() -> Benches.of(3, row(6, 1, 2, 1), row(-6, 2, 4, 2)));
        all.add(() -> Benches.of(2));
        return all;
    }

    private static void lowestTerms() {
        CHECKS.sentence("Terms", "Fractions are told in lowest terms: .. (positive; of 0: 1)");
        for (Supplier<GuessBench> maker : states()) {
            int columns = maker.get().count(0);
            for (Question question : questions(columns, maker.get().count(1))) {
                GuessBench x = maker.get();
                long top = question.ask().of(x, 0);
                long bottom = question.ask().of(x, 1);
                if (bottom == -1) {
                    CHECKS.due(question.call() + " not told, what 0", top, -1);
                } else {
                    CHECKS.due(question.call() + " " + top + "/" + bottom + " positive", bottom > 0, true);
                    CHECKS.due(question.call() + " " + top + "/" + bottom + " divisor", divisor(top, bottom), 1);
                }
            }
        }
    }

    private static void positiveDenominator() {
        CHECKS.sentence("Terms", "1 the denominator (positive): of what is below 0");
        Script.run(CHECKS, """
            columns 2; row 6 4 -2 0; row -8 2 6 0; row -4 -6 8 0; row 10 0 4 0
            weight 0 = 97/299; weight 1 = -94/299
            miss 0 = 1218/299; miss 1 = -2022/299; miss 2 = 6/13; miss 3 = 3366/299
            without 3 0 = -5/27; without 3 1 = -26/27; without 1 0 = 34/11; without 1 1 = 155/77
            far 0 0 = -194/49; far 0 1 = 47/2; far 2 0 = 97/23; far 3 0 = -97/11
            sized 0 = -10/13; sized 1 = -14/13; barred 1 0 = 757/2392; barred 1 1 = -749/2392
            """);
        Script.run(CHECKS, """
            columns 1; row -3 2 0 0; row 4 -3 0 0
            weight 0 = -18/13; miss 0 = -3/13; miss 1 = -2/13; without 0 0 = -4/3; far 0 0 = 9/1; far 1 0 = -6/1
            sized 0 = -4/3; barred 1 0 = -35/26; corner 0 = 36/1; cost 1 = 75/52
            """);
    }

    private static void zeroOverOne() {
        CHECKS.sentence("Terms", "1 the denominator (positive; of 0: 1)");
        Script.run(CHECKS, """
            columns 1; row 3 2 0 0; row -3 2 0 0; row 0 0 0 0
            weight 0 = 0/1; miss 2 = 0/1; pull 2 = 0/1; without 2 0 = 0/1; far 0 0 = 0/1; far 1 0 = 0/1
            half 0 = 0/1; half 1 = 0/1; half 2 = 0/1; barred 0 0 = 0/1; barred 7 0 = 0/1; barred 50000 0 = 0/1
            """);
        Script.run(CHECKS, """
            columns 2; row 6 2 4 0; row 3 3 -3 0; row 9 5 1 0
            sum = 0/1; miss 0 = 0/1; miss 1 = 0/1; few 2 = 0/1; half 3 = 0/1; sizes = 0/1; level = 0/1; cost 0 = 0/1
            """);
        Script.run(CHECKS, """
            columns 2; row 0 3 6 0; row 0 -4 2 0
            weight 0 = 0/1; weight 1 = 0/1; sum = 0/1; few 0 = 0/1; few 1 = 0/1; sizes = 0/1; sized 0 = 0/1
            sized 1 = 0/1; level = 0/1; cost 1 = 0/1; cost 50000 = 0/1; far 0 1 = 0/1; without 0 1 = 0/1
            """);
    }

    private static void wholeOverOne() {
        CHECKS.sentence("Terms", "in lowest terms: .. 1 the denominator (of whole numbers)");
        Script.run(CHECKS, """
            columns 3; row 6 2 0 0; row -8 0 4 0; row 6 0 0 6
            weight 0 = 3/1; weight 1 = -2/1; weight 2 = 1/1; sum = 0/1; pull 0 = 1/1; far 0 0 = -6/1; far 1 1 = 8/1
            few 0 = 136/1; few 1 = 72/1; few 2 = 36/1; sized 0 = 3/1; sized 1 = -2/1; sized 2 = 1/1
            barred 8 0 = 2/1; barred 32 0 = 0/1; barred 32 1 = -1/1; barred 36 2 = 1/2; cost 0 = 0/1; corners = 3
            corner 0 = 72/1; corner 1 = 64/1; corner 2 = 24/1
            """);
    }

    private static void otherWhats() {
        CHECKS.sentence("8 to 22", "NONE for others (another what)");
        for (Supplier<GuessBench> maker : states()) {
            for (Question question : questions(maker.get().count(0), maker.get().count(1))) {
                GuessBench x = maker.get();
                for (int what : OTHER_WHATS) {
                    CHECKS.due(question.call() + " what " + what, question.ask().of(x, what), -1);
                }
                if (!question.set()) {
                    CHECKS.due(question.call() + " what 2", question.ask().of(x, 2), -1);
                }
            }
        }
    }

    private static void otherWhatsWhereNothingIsTold() {
        CHECKS.sentence("8 to 22", "NONE for others (of a ROW, COLUMN or CORNER that is not, another what)");
        GuessBench x = Benches.two();
        for (int what : OTHER_WHATS) {
            CHECKS.due("weight 2 what " + what, x.weight(2, what), -1);
            CHECKS.due("miss 3 what " + what, x.miss(3, what), -1);
            CHECKS.due("pull 3 what " + what, x.pull(3, what), -1);
            CHECKS.due("without 3 0 what " + what, x.without(3, 0, what), -1);
            CHECKS.due("far 3 0 what " + what, x.far(3, 0, what), -1);
            CHECKS.due("few 3 what " + what, x.few(3, what), -1);
            CHECKS.due("half 4 what " + what, x.half(4, what), -1);
            CHECKS.due("sized 2 what " + what, x.sized(2, what), -1);
            CHECKS.due("barred 50001 0 what " + what, x.barred(50001, 0, what), -1);
            CHECKS.due("cost -1 what " + what, x.cost(-1, what), -1);
            CHECKS.due("corner 2 what " + what, x.corner(2, what), -1);
        }
    }
}
