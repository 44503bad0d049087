/** Counts and prints the calls whose answer is not the one that is due. */
final class Due {
    private static int wrong = 0;
    private static String sentence = "";

    private Due() {
    }

    /** The calls that follow are due by this sentence of the document; their report names it. */
    static void bySentence(String words) {
        sentence = "[" + words + "] ";
    }

    static void is(String call, int want, int got) {
        if (got != want) {
            report(call, "" + want, "" + got);
        }
    }

    static void is(String call, boolean want, boolean got) {
        if (got != want) {
            report(call, "" + want, "" + got);
        }
    }

    static void is(String call, String want, String got) {
        if (!got.equals(want)) {
            report(call, want, got);
        }
    }

    private static void report(String call, String want, String got) {
        wrong++;
        System.out.println(sentence + call + " answered " + got + ", due is " + want);
    }

    static boolean someWrong() {
        return wrong != 0;
    }

    static void end() {
        System.out.println(wrong == 0 ? "all answers are as due" : wrong + " answers are not as due");
        if (wrong != 0) {
            System.exit(1);
        }
    }
}
