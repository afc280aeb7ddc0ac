/** Counts answers that are not the ones due, each told with the sentence that it breaks. */
final class Checks {
    static final int LEAST = Integer.MIN_VALUE;
    static final int GREATEST = Integer.MAX_VALUE;
    /** Below and above all that is numbered from 0; times 3 or shifted some wrap into range. */
    static final int[] FAR_OFF = {
        LEAST, LEAST + 1, -0x55555555, -65536, -256, -24, -4, -3, -2,
        24, 25, 32, 33, 64, 256, 65536, 0x2AAAAAAB, 0x40000000, 0x55555555, 0x55555556, GREATEST
    };

    private int wrong = 0;
    private int asked = 0;
    private String sentence = "";

    void sentence(String promise, String words) {
        sentence = promise + " \"" + words + "\"";
    }

    void due(String call, long got, long want) {
        asked++;
        if (got != want) {
            wrong++;
            System.out.println(sentence + ": " + call + " answered " + got + ", due is " + want);
        }
    }

    void due(String call, boolean got, boolean want) {
        due(call, got ? 1 : 0, want ? 1 : 0);
    }

    void due(String call, String got, String want) {
        asked++;
        if (!got.equals(want)) {
            wrong++;
            System.out.println(sentence + ": " + call + "\n answered " + got + "\n due is   " + want);
        }
    }

    void fraction(String call, long top, long bottom, long wantTop, long wantBottom) {
        due(call + " what 0", top, wantTop);
        due(call + " what 1", bottom, wantBottom);
    }

    void end() {
        System.out.println(wrong == 0 ? "all " + asked + " answers are as due"
                : wrong + " answers of " + asked + " are not as due");
        if (wrong != 0) {
            System.exit(1);
        }
    }
}
