/** Counts the calls whose answers are not the ones that are due. */
final class Due {
    private static int calls = 0;
    private static int wrong = 0;
    private static int sentences = 0;
    private static String sentence = "";

    private Due() {
    }

    /** The answers that follow are due by this sentence of the document, seen through this promise. */
    static void says(int promise, String words) {
        sentence = "promise " + promise + ", \"" + words + "\": ";
        sentences++;
    }

    static void is(String call, long got, long want) {
        calls++;
        if (got == want) return;
        wrong++;
        if (wrong <= 40) System.out.println(sentence + call + " answered " + got + ", due is " + want);
    }

    static void end(String name) {
        String by = sentences == 0 ? "" : " by " + sentences + " sentences";
        System.out.println(name + ": " + calls + " answers" + by + ", " + wrong + " of them wrong");
        if (wrong != 0 || calls == 0) System.exit(1);
    }
}
