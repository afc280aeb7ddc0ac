import java.util.ArrayList;
import java.util.List;
import java.util.Random;

/** Every question of the face, at many states, against the answers of Reference. */
public final class ReferenceTest {
    private static final int[] BARS = {0, 1, 2, 7, 50, 333, 4000, 20000, 49999, 50000};

    private int wrong = 0;
    private String state = "";
    private GuessBench bench = new GuessBench();
    private final Reference reference = new Reference();

    public static void main(String[] args) {
        ReferenceTest test = new ReferenceTest();
        Random random = new Random(20261118);
        for (int turn = 0; turn < 700; turn++) {
            test.randomState(random, turn);
        }
        test.greatStates();
        System.out.println(test.wrong == 0 ? "all answers are as due" : test.wrong + " are not as due");
        if (test.wrong != 0) {
            System.exit(1);
        }
    }

    private void due(String call, long got, long want) {
        if (got != want) {
            wrong++;
            if (wrong <= 40) {
                System.out.println(call + " answered " + got + ", due is " + want + " at " + state);
            }
        }
    }

    private void randomState(Random random, int turn) {
        int columns = 1 + random.nextInt(3);
        int most = turn % 25 == 0 ? 24 : 11;
        int rows = random.nextInt(most + 1);
        int number = new int[] {1, 2, 9}[random.nextInt(3)];
        int told = new int[] {1, 4, 99}[random.nextInt(3)];
        boolean isThin = random.nextInt(4) == 0;
        begin(columns);
        for (int r = 0; r < rows; r++) {
            int[] x = new int[3];
            for (int c = 0; c < 3; c++) {
                x[c] = random.nextInt(2 * number + 1) - number;
            }
            if (isThin) {
                x[1] = x[0];
            }
            addRow(random.nextInt(2 * told + 1) - told, x);
        }
        for (int r = 0; r < rows; r++) {
            if (random.nextInt(8) == 0) {
                bench.set(r, false);
                reference.kept.set(r, false);
                state += " drop " + r;
            }
        }
        compare(1 + random.nextInt(50000));
    }

    private void begin(int columns) {
        state = "start " + columns;
        bench.start(columns);
        reference.start(columns);
    }

    private void addRow(int told, int[] x) {
        state += " row " + told + " " + x[0] + " " + x[1] + " " + x[2];
        bench.row(told, x[0], x[1], x[2]);
        reference.add(told, x);
    }

    /** The same state in a new object, since what an object answers after 512 calls is free. */
    private void renew() {
        bench = new GuessBench();
        bench.start(reference.columns);
        for (int r = 0; r < reference.tolds.size(); r++) {
            int[] x = reference.numbers.get(r);
            bench.row(reference.tolds.get(r), x[0], x[1], x[2]);
            if (!reference.kept.get(r)) {
                bench.set(r, false);
            }
        }
    }

    /** States whose sums are at or near the greatest that the bounds allow. */
    private void greatStates() {
        for (int columns = 1; columns <= 3; columns++) {
            for (int kind = 0; kind < 6; kind++) {
                begin(columns);
                for (int r = 0; r < 24; r++) {
                    addRow(greatTold(kind, r), greatNumbers(kind, r));
                }
                compare(31);
            }
        }
    }

    private static int greatTold(int kind, int r) {
        switch (kind) {
            case 0:
                return 99;
            case 1:
                return (r & 1) == 0 ? 99 : -99;
            case 2:
                return r % 3 == 0 ? 99 : -99;
            default:
                return r % 5 < 2 ? 99 : 98 - r;
        }
    }

    private static int[] greatNumbers(int kind, int r) {
        int[] x = new int[3];
        for (int c = 0; c < 3; c++) {
            boolean isBelow = (r >> c & 1) == 0;
            switch (kind) {
                case 0, 1, 2:
                    x[c] = isBelow ? 9 : -9;
                    break;
                case 3:
                    x[c] = r % 8 == c ? -9 : 9;
                    break;
                case 4:
                    x[c] = r == c ? 8 : 9;
                    break;
                default:
                    x[c] = (r % 2 == 0 ? 1 : -1) * (isBelow ? 9 : 8 - c);
                    break;
            }
        }
        return x;
    }

    private void dueFrac(String call, long top, long bottom, Frac want) {
        due(call + " 0", top, want == null ? -1 : want.told(0));
        due(call + " 1", bottom, want == null ? -1 : want.told(1));
    }

    private void compare(int bar) {
        due("free", bench.free(), reference.free());
        List<Integer> kept = reference.keptRows();
        Frac all = reference.sumOf(kept, reference.allColumns());
        dueFrac("sum", bench.sum(0), bench.sum(1), all);
        compareWeights();
        compareFew(kept);
        compareSizes();
        renew();
        compareRows();
        renew();
        compareHalf(kept);
        compareCorners();
        renew();
        compareBar(bar);
        for (int other : BARS) {
            compareBar(other);
        }
    }

    private void compareWeights() {
        Frac[] w = reference.weights();
        for (int c = 0; c < 3; c++) {
            Frac want = c < reference.columns ? w[c] : null;
            dueFrac("weight " + c, bench.weight(c, 0), bench.weight(c, 1), want);
        }
    }

    private void compareRows() {
        for (int r = 0; r < reference.tolds.size(); r++) {
            dueFrac("miss " + r, bench.miss(r, 0), bench.miss(r, 1), reference.miss(r));
            dueFrac("pull " + r, bench.pull(r, 0), bench.pull(r, 1), reference.pull(r));
            Frac[] without = reference.without(r);
            for (int c = 0; c < reference.columns; c++) {
                Frac want = without == null ? null : without[c];
                dueFrac("without " + r + " " + c, bench.without(r, c, 0), bench.without(r, c, 1), want);
                dueFrac("far " + r + " " + c, bench.far(r, c, 0), bench.far(r, c, 1),
                        reference.far(r, c));
            }
        }
    }

    private void compareFew(List<Integer> kept) {
        for (int many = 0; many <= reference.columns; many++) {
            int set = reference.few(many);
            dueFrac("few " + many, bench.few(many, 0), bench.few(many, 1), reference.sumOf(kept, set));
            due("few " + many + " 2", bench.few(many, 2), set);
        }
    }

    private void compareHalf(List<Integer> kept) {
        for (int many = 0; many <= kept.size(); many++) {
            if (kept.size() > 10) {
                dueFrac("half " + many, bench.half(many, 0), bench.half(many, 1), null);
                due("half " + many + " 2", bench.half(many, 2), -1);
                continue;
            }
            List<Integer> rows = reference.half(many);
            long bits = 0;
            for (int r : rows) {
                bits |= 1L << r;
            }
            Frac want = reference.sumOf(rows, reference.allColumns());
            dueFrac("half " + many, bench.half(many, 0), bench.half(many, 1), want);
            due("half " + many + " 2", bench.half(many, 2), bits);
        }
    }

    private void compareSizes() {
        Frac[] w = reference.sized();
        dueFrac("sizes", bench.sizes(0), bench.sizes(1), w == null ? null : reference.sizesOf(w));
        for (int c = 0; c < reference.columns; c++) {
            dueFrac("sized " + c, bench.sized(c, 0), bench.sized(c, 1), w == null ? null : w[c]);
        }
        dueFrac("level", bench.level(0), bench.level(1), reference.level());
    }

    private void compareCorners() {
        List<Frac> corners = reference.corners();
        due("corners", bench.corners(), corners == null ? -1 : corners.size());
        List<Frac> told = corners == null ? new ArrayList<>() : corners;
        for (int i = 0; i < told.size(); i++) {
            dueFrac("corner " + i, bench.corner(i, 0), bench.corner(i, 1), told.get(i));
        }
        dueFrac("corner " + told.size(), bench.corner(told.size(), 0), bench.corner(told.size(), 1), null);
        for (Frac corner : told) {
            long near = corner.top.divide(corner.bottom).longValueExact();
            compareBar((int) near);
            compareBar((int) near + 1);
        }
    }

    private void compareBar(int bar) {
        Frac[] w = reference.barred(Frac.of(bar));
        for (int c = 0; c < reference.columns; c++) {
            dueFrac("barred " + bar + " " + c, bench.barred(bar, c, 0), bench.barred(bar, c, 1),
                    w == null ? null : w[c]);
        }
        dueFrac("cost " + bar, bench.cost(bar, 0), bench.cost(bar, 1), reference.cost(Frac.of(bar)));
    }
}
