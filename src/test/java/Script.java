import java.util.ArrayList;
import java.util.List;

/**
 * Runs a text: a state (lines "columns n", "row told a b c", "drop r"), and then asks of that state
 * (lines "name arguments = answer"). An answer is a whole number, "top/bottom", or "none".
 */
final class Script {
    private static final int CALLS_OF_ONE_OBJECT = 512;

    private final Checks checks;
    private final List<String[]> state = new ArrayList<>();
    private GuessBench bench = new GuessBench();
    private int calls = CALLS_OF_ONE_OBJECT;

    private Script(Checks checks) {
        this.checks = checks;
    }

    static void run(Checks checks, String text) {
        Script script = new Script(checks);
        for (String line : text.strip().split("\\s*\n\\s*|\\s*;\\s*")) {
            int equals = line.indexOf(" = ");
            if (equals < 0) {
                script.state.add(line.split(" "));
            } else {
                script.ask(line.substring(0, equals), line.substring(equals + 3));
            }
        }
    }

    private void ask(String question, String want) {
        if (calls + 2 > CALLS_OF_ONE_OBJECT) {
            build();
        }
        calls += 2;
        String[] words = question.split(" ");
        int slash = want.indexOf('/');
        if (want.equals("none")) {
            checks.fraction(question, answer(words, 0), answer(words, 1), -1, -1);
        } else if (slash < 0) {
            checks.due(question, answer(words, 2), Long.parseLong(want));
        } else {
            checks.fraction(question, answer(words, 0), answer(words, 1),
                    Long.parseLong(want.substring(0, slash)), Long.parseLong(want.substring(slash + 1)));
        }
    }

    /** What is answered after the 512th call of an object is free: so the state is made anew. */
    private void build() {
        bench = new GuessBench();
        calls = state.size();
        for (String[] words : state) {
            boolean taken = switch (words[0]) {
                case "columns" -> bench.start(number(words, 1));
                case "row" -> bench.row(number(words, 1), number(words, 2), number(words, 3), number(words, 4)) >= 0;
                case "drop" -> bench.set(number(words, 1), false);
                default -> throw new IllegalStateException(words[0]);
            };
            checks.due(String.join(" ", words), taken, true);
        }
    }

    private long answer(String[] words, int what) {
        int i = number(words, 1);
        int j = number(words, 2);
        return switch (words[0]) {
            case "free" -> bench.free();
            case "corners" -> bench.corners();
            case "weight" -> bench.weight(i, what);
            case "miss" -> bench.miss(i, what);
            case "sum" -> bench.sum(what);
            case "pull" -> bench.pull(i, what);
            case "without" -> bench.without(i, j, what);
            case "far" -> bench.far(i, j, what);
            case "few" -> bench.few(i, what);
            case "half" -> bench.half(i, what);
            case "sizes" -> bench.sizes(what);
            case "sized" -> bench.sized(i, what);
            case "level" -> bench.level(what);
            case "barred" -> bench.barred(i, j, what);
            case "cost" -> bench.cost(i, what);
            case "corner" -> bench.corner(i, what);
            default -> throw new IllegalStateException(words[0]);
        };
    }

    private static int number(String[] words, int place) {
        return place < words.length ? Integer.parseInt(words[place]) : 0;
    }
}
