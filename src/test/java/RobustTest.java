import java.lang.management.ManagementFactory;
import java.util.Random;

/** Any arguments in any state: nothing is thrown, questions change nothing, and no call makes objects. */
public final class RobustTest {
    private static final int[] EDGES = {
        Integer.MIN_VALUE, Integer.MIN_VALUE + 1, -50001, -100, -99, -10, -9, -3, -2, -1, 0, 1, 2, 3, 4,
        9, 10, 11, 23, 24, 25, 26, 31, 32, 99, 100, 50000, 50001, Integer.MAX_VALUE - 1, Integer.MAX_VALUE
    };
    private static final int QUESTIONS = 20;

    private static int wrong = 0;

    public static void main(String[] args) {
        Random random = new Random(7);
        for (int run = 0; run < 300; run++) {
            anyCalls(random, run);
        }
        noObjects();
        System.out.println(wrong == 0 ? "all answers are as due" : wrong + " answers are not as due");
        if (wrong != 0) {
            System.exit(1);
        }
    }

    private static void due(String what, long got, long want) {
        if (got != want) {
            wrong++;
            System.out.println(what + ": " + got + ", due is " + want);
        }
    }

    private static int any(Random random) {
        return random.nextInt(3) == 0 ? EDGES[random.nextInt(EDGES.length)] : random.nextInt(12) - 3;
    }

    /** The same changes on two benches, but questions to one of them alone. */
    private static void anyCalls(Random random, int run) {
        GuessBench asked = new GuessBench();
        GuessBench quiet = new GuessBench();
        for (int call = 0; call < 512; call++) {
            int kind = random.nextInt(random.nextInt(3) == 0 ? 4 : 40);
            int a = any(random);
            int b = any(random);
            int c = any(random);
            int d = any(random);
            if (kind == 0 && random.nextInt(20) != 0) {
                kind = 1;
            }
            switch (kind) {
                case 0:
                    due("start", asked.start(a) ? 1 : 0, quiet.start(a) ? 1 : 0);
                    break;
                case 1:
                    due("row", asked.row(a, b, c, d), quiet.row(a, b, c, d));
                    break;
                case 2, 3:
                    boolean there = random.nextBoolean();
                    due("set", asked.set(a, there) ? 1 : 0, quiet.set(a, there) ? 1 : 0);
                    break;
                default:
                    long first = ask(asked, kind % QUESTIONS, a, b, c);
                    due("asked again", ask(asked, kind % QUESTIONS, a, b, c), first);
                    break;
            }
        }
        for (int question = 0; question < QUESTIONS; question++) {
            for (int i = -1; i < 25; i++) {
                due("run " + run + " question " + question, ask(asked, question, i, 0, 0),
                        ask(quiet, question, i, 0, 0));
                due("run " + run + " question " + question, ask(asked, question, 0, i, 0),
                        ask(quiet, question, 0, i, 0));
            }
        }
    }

    private static long ask(GuessBench x, int question, int a, int b, int c) {
        switch (question) {
            case 0: return x.at(a, b);
            case 1: return x.there(a) ? 1 : 0;
            case 2: return x.free();
            case 3: return x.weight(a, b);
            case 4: return x.miss(a, b);
            case 5: return x.sum(a);
            case 6: return x.pull(a, b);
            case 7: return x.without(a, b, c);
            case 8: return x.far(a, b, c);
            case 9: return x.few(a, b);
            case 10: return x.half(a, b);
            case 11: return x.sizes(a);
            case 12: return x.sized(a, b);
            case 13: return x.level(a);
            case 14: return x.barred(a, b, c);
            case 15: return x.cost(a, b);
            case 16: return x.corners();
            case 17: return x.corner(a, b);
            case 18: return x.count(a);
            default: return x.half(b, a);
        }
    }

    /** All calls of a run live in one room, so that what a call makes would add up. */
    private static void noObjects() {
        var threads = (com.sun.management.ThreadMXBean) ManagementFactory.getThreadMXBean();
        long id = Thread.currentThread().getId();
        GuessBench x = new GuessBench();
        allQuestions(x);
        threads.getThreadAllocatedBytes(id);
        long before = threads.getThreadAllocatedBytes(id);
        long after = threads.getThreadAllocatedBytes(id);
        long askingAlone = after - before;
        before = threads.getThreadAllocatedBytes(id);
        allQuestions(x);
        after = threads.getThreadAllocatedBytes(id);
        due("bytes made by calls", Math.max(0, after - before - askingAlone), 0);
    }

    private static void allQuestions(GuessBench x) {
        x.start(3);
        for (int r = 0; r < 24; r++) {
            x.row(r * 7 % 100, r % 10, 9 - r * r % 10, r % 7 - 3);
            for (int question = 0; question < QUESTIONS; question++) {
                ask(x, question, 0, 0, 0);
                ask(x, question, 2, 1, 0);
            }
        }
    }
}
