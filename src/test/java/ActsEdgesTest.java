/** Promises 29 to 34: each sentence that names a boundary, just inside it, just outside, far off. */
public final class ActsEdgesTest {
    private static final int NONE = KingsBalance.NONE, STATE = KingsBalance.STATE;
    private static final int MIN = Integer.MIN_VALUE, MAX = Integer.MAX_VALUE;

    public static void main(String[] args) {
        promise29Wraps();
        promise29Numbers();
        promise29Refusals();
        promise30();
        promise30Order();
        promise31();
        promise31Bounds();
        promise32();
        promise33();
        promise33Trace();
        promise33Full();
        promise34();
        promise34Bounds();
        Due.end("ActsEdgesTest");
    }

    /** Eight STANDINGS: one of each KIND, then one more of the KIND told; v is 9 less the number. */
    private static KingsBalance eight(int last) {
        KingsBalance x = new KingsBalance();
        for (int s = 0; s < 7; s++) x.standing(s, 9 - s);
        x.standing(last, 9);
        return x;
    }

    private static void promise29Wraps() {
        Due.says(29, "ACTS of a STANDING with x (ints, wrapping)");
        int[] xs = {MIN, MIN + 1, -1431655766, -1431655765, -715827883, -715827882, -1 << 30, -8, -7, -2, -1, 0, 1, 2, 7, 8,
            715827882, 715827883, 1 << 30, 1431655765, 1431655766, MAX - 7, MAX - 1, MAX};
        for (int x : xs) {
            KingsBalance y = eight(2);
            due(y, 0, 0, x, x);
            due(y, 0, 1, x, x - 9L);
            due(y, 0, 2, x, 2 * (x - 9L));
            due(y, 1, 0, x, x + 1L);
            due(y, 1, 1, x, 3L * x + 1 - 8);
            due(y, 1, 2, x, 2 * (3L * x + 1 - 8));
            due(y, 2, 0, x, -(x + 2L));
            due(y, 2, 1, x, -(x + 2L) - 7);
            due(y, 2, 2, x, 2 * (-(x + 2L) - 7));
            due(y, 3, 0, x, x + 3L);
            due(y, 3, 1, x, x + 3L - 6);
            due(y, 3, 2, x, 2 * (x + 3L - 6) ^ 7);
            due(y, 4, 0, x, -(x + 4L));
            due(y, 4, 1, x, -(x + 4L) - 5);
            due(y, 4, 2, x, 2 * (-(x - 1L + 4) - 5) + -(2 + 4));
            due(y, 5, 0, x, x + 5L ^ 5);
            due(y, 5, 1, x, (x + 5L ^ 5) - 4);
            due(y, 5, 2, x, 2 * ((x + 5L ^ 5) - 4) ^ 7);
            due(y, 6, 0, x, x + 6L);
            due(y, 6, 1, x, x + 6L - 3 + 3);
            due(y, 6, 2, x, 2 * (x + 6L - 3 + 3) ^ 7);
            due(y, 7, 0, x, -(x + 7L));
        }
    }

    private static void due(KingsBalance y, int s, int act, int x, long due) {
        Due.is("act(" + s + ", " + act + ", " + x + ")", y.act(s, act, x), (int) due);
    }

    private static void promise29Numbers() {
        Due.says(29, "i its number");
        for (int kind = 0; kind < 7; kind++) {
            KingsBalance x = new KingsBalance();
            for (int i = 0; i < 8; i++) x.standing(kind, 0);
            for (int i = 0; i < 8; i++) {
                int due = kind == 2 || kind == 4 ? -(100 + i) : kind == 5 ? 100 + i ^ i : 100 + i;
                Due.is("act(" + i + ", 0, 100) of kind " + kind, x.act(i, 0, 100), due);
            }
        }
        Due.says(29, "what stands in a body is done from the left on");
        KingsBalance x = eight(4);
        // of 41 super.holds(4) first: 3, 2, comes as LEAGUE has it, 21, 1; then comes(2): 21, 1
        int[] due = {41, 3, 2, 21, 1, 21, 1};
        for (int s = 4; s < 8; s += 3) {
            x.act(s, 2, 5);
            Due.is("count(5)", x.count(5), 7);
            for (int i = 0; i < 7; i++) Due.is("trace(" + i + ") of LEAGUE", x.trace(i), due[i]);
        }
        Due.is("act(7, 2, 5)", x.act(7, 2, 5), 2 * (-(4 + 7) - 9) - (2 + 7));
    }

    private static void promise29Refusals() {
        Due.says(29, "0, and no TRACE then: no such STANDING, act.");
        KingsBalance x = eight(1);
        for (int s : Bounds.outside(0, 7)) gone(x, s, 0);
        for (int act : Bounds.outside(0, 2)) gone(x, 0, act);
        gone(x, 8, 3);
        gone(x, -1, -1);
        KingsBalance none = new KingsBalance();
        for (int s : Bounds.outside(0, -1)) {
            Due.is("act(" + s + ", 0, 5) of a new object", none.act(s, 0, 5), 0);
            Due.is("count(5)", none.count(5), 0);
        }
    }

    private static void gone(KingsBalance x, int s, int act) {
        Due.is("act(0, 2, 5)", x.act(0, 2, 5), -8);
        Due.is("trace(2)", x.trace(2), 1);
        Due.is("act(" + s + ", " + act + ", 5)", x.act(s, act, 5), 0);
        Due.is("count(5) behind act(" + s + ", " + act + ", 5)", x.count(5), 0);
        Due.is("trace(0)", x.trace(0), NONE);
        Due.is("trace(2)", x.trace(2), NONE);
    }

    private static void promise30() {
        Due.says(30, "THE TRACE's i-th body. NONE.");
        KingsBalance x = eight(4);
        for (int i = -1; i < 22; i++) Due.is("trace(" + i + ") ahead of an act", x.trace(i), NONE);
        int[][] sizes = {{0, 0, 1}, {0, 1, 2}, {0, 2, 3}, {1, 1, 3}, {1, 2, 4}, {3, 2, 4}, {5, 2, 5}, {6, 2, 5}, {4, 1, 3}, {4, 2, 7}, {7, 2, 7}};
        for (int[] s : sizes) {
            x.act(s[0], s[1], 1);
            Due.is("count(5) of act(" + s[0] + ", " + s[1] + ", 1)", x.count(5), s[2]);
            Due.is("trace(" + (s[2] - 1) + "), the last one", x.trace(s[2] - 1), 1);
            Due.is("trace(" + s[2] + "), behind it", x.trace(s[2]), NONE);
        }
        for (int i : Bounds.outside(0, 6)) Due.is("trace(" + i + ")", x.trace(i), NONE);
        Due.is("trace(0)", x.trace(0), 41);
        Due.is("trace(6)", x.trace(6), 1);
    }

    private static void promise30Order() {
        Due.says(30, "the numbers of the bodies that ran in the latest act(), as they began; the first 20 are kept");
        KingsBalance x = eight(4);
        // many acts are one another's end: no run of them comes to 20, as only the latest counts
        for (int n = 0; n < 40; n++) {
            x.act(4, 2, n);
            Due.is("count(5) of act " + n, x.count(5), 7);
            Due.is("trace(0) of act " + n, x.trace(0), 41);
            Due.is("trace(6) of act " + n, x.trace(6), 1);
            Due.is("trace(7) of act " + n, x.trace(7), NONE);
            x.act(0, 0, n);
            Due.is("count(5) of a shorter one", x.count(5), 1);
            Due.is("trace(0) of a shorter one", x.trace(0), 1);
            Due.is("trace(1) of a shorter one", x.trace(1), NONE);
        }
        int[][] holds = {{3, 2, 1}, {3, 11, 2, 1}, {3, 2, 21, 1}, {31, 3, 2, 1}, {41, 3, 2, 21, 1, 21, 1}, {31, 3, 2, 51, 1}, {31, 3, 61, 2, 1}};
        for (int kind = 0; kind < 7; kind++) {
            x.act(kind, 2, 1);
            for (int i = 0; i < holds[kind].length; i++) Due.is("trace(" + i + ") of kind " + kind, x.trace(i), holds[kind][i]);
        }
        x.comes(0, 0, 1, 0);
        x.dares(0, 0, 0);
        x.count(5);
        Due.is("trace(2): other calls are no act()", x.trace(2), 61);
        Due.is("count(5)", x.count(5), 5);
    }

    private static void promise31() {
        Due.says(31, "A STANDING taken for a KIND k (0 .. 6), or one under that: its v. NONE: standing, k; -6: it is of another KIND.");
        // under which KINDS each KIND stands, as bits
        int[] above = {0b1, 0b11, 0b101, 0b1001, 0b10101, 0b101001, 0b1001001};
        for (int kind = 0; kind < 7; kind++) {
            KingsBalance x = eight(kind);
            for (int k = 0; k < 7; k++) {
                boolean under = (above[kind] >> k & 1) != 0;
                Due.is("as(" + kind + ", " + k + ")", x.as(kind, k), under ? 9 - kind : -6);
                Due.is("as(7, " + k + ") of kind " + kind, x.as(7, k), under ? 9 : -6);
            }
        }
    }

    private static void promise31Bounds() {
        Due.says(31, "NONE: standing, k");
        KingsBalance x = eight(6);
        for (int s : Bounds.outside(0, 7)) Due.is("as(" + s + ", 0)", x.as(s, 0), NONE);
        for (int k : Bounds.outside(0, 6)) Due.is("as(0, " + k + ")", x.as(0, k), NONE);
        Due.is("as(8, 7)", x.as(8, 7), NONE);
        KingsBalance y = new KingsBalance();
        Due.is("as(0, 0) of a new object", y.as(0, 0), NONE);
        y.standing(0, 0);
        Due.is("as(0, 0) with a v of 0", y.as(0, 0), 0);
        Due.is("as(0, 1)", y.as(0, 1), -6);
        Due.is("as(1, 0)", y.as(1, 0), NONE);
    }

    private static void promise32() {
        Due.says(32, "THE IMAGE is taken: how many KINGS there are.");
        KingsBalance x = new KingsBalance();
        for (int k = 0; k < 7; k++) {
            Due.is("image() of " + k, x.image(), k);
            x.king(50 + k, 0);
            Due.is("undo()", x.undo(), k);
            Due.is("count(0)", x.count(0), k);
            Due.is("king()", x.king(k, k), k);
        }
        Due.is("image() of 7", x.image(), 7);
        Due.is("king()", x.king(0, 0), KingsBalance.FULL);
        Due.is("undo()", x.undo(), 7);
        x.standing(1, 0);
        x.lead(0, 6, 0);
        Due.is("image(): the FALLEN are KINGS, too", x.image(), 7);
        Due.is("count(1)", x.count(1), 6);
    }

    private static void promise33() {
        Due.says(33, "STATE: there is none.");
        KingsBalance x = new KingsBalance();
        Due.is("undo()", x.undo(), STATE);
        x.king(5, 5);
        x.standing(0, 0);
        Play.world(x, "word 1");
        Due.is("undo()", x.undo(), STATE);
        Due.is("count(0) behind STATE", x.count(0), 1);
        Due.is("count(2) behind STATE", x.count(2), 1);
        Due.is("count(3) behind STATE", x.count(3), 1);
        Due.says(33, "THE IMAGE: all that there is (but THE IMAGE, which stays, and THE TRACE).");
        Due.is("image()", x.image(), 1);
        for (int n = 0; n < 20; n++) {
            x.king(n, n);
            x.arm(0, 50 + n);
            Due.is("undo() " + n, x.undo(), 1);
            Due.is("of(0, 0) " + n, x.of(0, 0), 5);
            Due.is("count(0) " + n, x.count(0), 1);
        }
        Due.is("undo() of nothing new", x.undo(), 1);
        x.arm(0, 9);
        Due.is("image() of another state", x.image(), 1);
        x.arm(0, 10);
        Due.is("undo()", x.undo(), 1);
        Due.is("of(0, 0) by the newer image", x.of(0, 0), 9);
        // an image behind an undo is of what is then
        x.image();
        x.undo();
        Due.is("of(0, 0)", x.of(0, 0), 9);
    }

    private static void promise33Trace() {
        Due.says(33, "(but THE IMAGE, which stays, and THE TRACE)");
        KingsBalance x = new KingsBalance();
        x.image();
        x.standing(4, 3);
        x.act(0, 2, 5);
        Due.is("undo()", x.undo(), 0);
        Due.is("count(3)", x.count(3), 0);
        Due.is("count(5): the TRACE stays", x.count(5), 7);
        Due.is("trace(0): the TRACE stays", x.trace(0), 41);
        Due.is("trace(6)", x.trace(6), 1);
        Due.is("trace(7)", x.trace(7), NONE);
        Due.is("act(0, 2, 5): the STANDING is gone", x.act(0, 2, 5), 0);
        Due.is("count(5)", x.count(5), 0);
        Due.is("undo()", x.undo(), 0);
        Due.is("count(5): no TRACE stays so", x.count(5), 0);
    }

    /** Seven KINGS, eight STANDINGS, 120 bytes on THE TAPE, a WORLD of ten clauses. */
    private static KingsBalance full() {
        KingsBalance x = eight(2);
        for (int k = 0; k < 7; k++) x.king(10 + k, 5 * k);
        Play.world(x, "cost 1 k=0;cost 2 k=6;less 5;less 7;take 9;take 50;word 3;word 2;cost 0 k<9;cost 4 m=5");
        Play.feed(x, Play.times("word 1;", 9) + "cost 99 " + Play.times("!", 5) + "m=30" + Play.times("&s=10", 8));
        return x;
    }

    private static void promise33Full() {
        Due.says(33, "All is as THE IMAGE: how many KINGS.");
        KingsBalance x = full();
        Due.is("count(4)", x.count(4), 120);
        Due.is("image()", x.image(), 7);
        Due.is("lead(1, 6, 0)", x.lead(1, 6, 0), 1);
        for (int k = 1; k < 7; k++) {
            x.arm(k, 90);
            x.worth(k, k - 1, 77);
            x.pact(k, k - 1, 2);
            x.block(7, k, 0);
        }
        Due.is("world()", x.world(), 2);
        Play.feed(x, "x");
        Due.is("undo()", x.undo(), 7);
        Look.same("image() and undo()", x, imaged());
    }

    private static KingsBalance imaged() {
        KingsBalance x = full();
        x.image();
        return x;
    }

    private static void promise34() {
        Due.says(34, "0 KINGS, 1 that are alive, 2 WORLDS, 3 STANDINGS, 4 bytes of THE TAPE, 5 bodies that ran in the latest act() (all, kept or not), 6 wars that were led.");
        KingsBalance x = new KingsBalance();
        for (int what = 0; what < 7; what++) Due.is("count(" + what + ") of a new object", x.count(what), 0);
        x = full();
        x.act(4, 2, 0);
        int[] due = {7, 7, 1, 8, 120, 7, 0};
        for (int what = 0; what < 7; what++) Due.is("count(" + what + ") of a full object", x.count(what), due[what]);
        x.lead(1, 6, 0);
        Due.is("count(0) behind a war", x.count(0), 7);
        Due.is("count(1) behind a war", x.count(1), 6);
        Due.is("count(6) behind a war", x.count(6), 1);
        x.lead(1, 1, 6);
        Due.is("count(1) behind a war that was lost", x.count(1), 6);
        Due.is("count(6) behind a war that was lost", x.count(6), 2);
        x.lead(1, 0, 6);
        x.lead(8, 1, 6);
        x.lead(1, 1, 1);
        Due.is("count(6) behind refusals", x.count(6), 2);
        x.marry(1, 1, 6, 0);
        x.few(1, 0);
        x.all(2);
        Due.is("count(6) behind what only thinks of wars", x.count(6), 2);
        Due.is("count(1)", x.count(1), 6);
        int led = x.next(1);
        Due.is("count(6) behind next", x.count(6), 2 + led);
        Due.is("count(5) is not of next", x.count(5), 7);
    }

    private static void promise34Bounds() {
        Due.says(34, "NONE there is no such KING, STANDING, KIND, what, i");
        KingsBalance x = full(), none = new KingsBalance();
        for (int what : Bounds.outside(0, 6)) {
            Due.is("count(" + what + ")", x.count(what), NONE);
            Due.is("count(" + what + ") of a new object", none.count(what), NONE);
        }
    }
}
