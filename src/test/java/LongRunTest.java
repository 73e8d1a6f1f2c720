/** Objects that are used for all of their 512 calls. */
public final class LongRunTest {
    private static final int CALLS = 512;

    public static void main(String[] args) {
        worlds();
        wars();
        acts();
        images();
        Due.end("LongRunTest");
    }

    private static void worlds() {
        Due.says(8, "An object is used for at most 512 calls after it has been made");
        KingsBalance x = new KingsBalance();
        for (int n = 1; n <= CALLS / 2; n++) {
            Due.is("feed, call " + (2 * n - 1), x.feed(0x74616b652031L, 6), 6);
            Due.is("world(), call " + 2 * n, x.world(), n);
        }
        KingsBalance y = new KingsBalance();
        for (int n = 1; n <= 120; n++) Due.is("feed, call " + n, y.feed(-1, 1), n);
        for (int n = 121; n < CALLS; n++) Due.is("feed, call " + n, y.feed(-1, 1), KingsBalance.FULL);
        Due.is("count(4), call 512", y.count(4), 120);
    }

    private static void wars() {
        Due.says(34, "6 wars that were led");
        KingsBalance x = new KingsBalance();
        x.king(0, 0);
        x.king(99, 0);
        x.standing(1, 0);
        for (int n = 4; n < CALLS; n++) Due.is("lead(0, 0, 1), call " + n, x.lead(0, 0, 1), 0);
        Due.is("count(6), call 512", x.count(6), CALLS - 4);
    }

    private static void acts() {
        Due.says(29, "An object is used for at most 512 calls after it has been made");
        KingsBalance x = new KingsBalance();
        x.standing(4, 1);
        int n = 2;
        for (int i = 0; n + 2 <= CALLS; n += 3, i++) {
            // 2 * (-(i - 1) - 1) - 2
            Due.is("act(0, 2, " + i + "), call " + n, x.act(0, 2, i), -2 * i - 2);
            Due.is("count(5), call " + (n + 1), x.count(5), 7);
            Due.is("trace(6), call " + (n + 2), x.trace(6), 1);
        }
    }

    private static void images() {
        Due.says(33, "All is as THE IMAGE: how many KINGS.");
        KingsBalance x = new KingsBalance();
        int n = 1;
        for (int i = 0; n + 3 <= CALLS; n += 4, i++) {
            Due.is("image(), call " + n, x.image(), 0);
            Due.is("king, call " + (n + 1), x.king(i % 100, 0), 0);
            Due.is("of(0, 0), call " + (n + 2), x.of(0, 0), i % 100);
            Due.is("undo(), call " + (n + 3), x.undo(), 0);
        }
    }
}
