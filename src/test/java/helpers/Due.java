/** Counts the answers that are not as due, and ends the test by them. */
final class Due {
    private static int asked = 0;
    private static int wrong = 0;
    private static String sentence = "";

    private Due() {
    }

    /** What follows tests this sentence of the document, which is told with each answer that is not as due. */
    static void of(String words) {
        sentence = words.isEmpty() ? "" : "[" + words + "] ";
    }

    static void is(String call, long want, long got) {
        asked++;
        if (got != want) {
            wrong++;
            System.out.println(sentence + call + " answered " + got + ", due is " + want);
        }
    }

    static void yes(String call, boolean got) {
        is(call, 1, got ? 1 : 0);
    }

    static void no(String call, boolean got) {
        is(call, 0, got ? 1 : 0);
    }

    static int wrongSoFar() {
        return wrong;
    }

    static void end() {
        System.out.println(asked + " answers, " + wrong + " not as due");
        if (wrong != 0 || asked == 0) {
            System.exit(1);
        }
    }
}
