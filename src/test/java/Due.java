/** Counts the calls whose answers are not the ones that are due. */
final class Due {
    private static int calls = 0;
    private static int wrong = 0;

    private Due() {
    }

    static void is(String call, long got, long want) {
        calls++;
        if (got == want) return;
        wrong++;
        if (wrong <= 40) System.out.println(call + " answered " + got + ", due is " + want);
    }

    static void end(String name) {
        System.out.println(name + ": " + calls + " answers, " + wrong + " of them wrong");
        if (wrong != 0 || calls == 0) System.exit(1);
    }
}
