/** Promises 1 to 7, 9 and 10: each sentence that names a boundary, just inside it, just outside, far off. */
public final class KingsEdgesTest {
    private static final int NONE = KingsBalance.NONE, BAD = KingsBalance.BAD;
    private static final int STATE = KingsBalance.STATE, FULL = KingsBalance.FULL;

    public static void main(String[] args) {
        promise01();
        promise02Numbers();
        promise02Bounds();
        promise03();
        promise03Fallen();
        promise04();
        promise05();
        promise06();
        promise07Bytes();
        promise07Bounds();
        promise07Full();
        promise09Refusals();
        promise09Miles();
        promise09Compares();
        promise09Sums();
        promise09Newest();
        promise10();
        Due.end("KingsEdgesTest");
    }

    private static KingsBalance seven() {
        return Play.kings(10, 0, 11, 1, 12, 2, 13, 3, 14, 4, 15, 5, 16, 6);
    }

    private static void promise01() {
        Due.says(1, "No KINGS.");
        KingsBalance x = new KingsBalance();
        Due.is("count(0)", x.count(0), 0);
        Due.is("count(1)", x.count(1), 0);
        Due.is("image()", x.image(), 0);
        Due.is("courted()", x.courted(), -5);
        for (int k = -1; k < 8; k++) {
            Due.is("of(" + k + ", 0)", x.of(k, 0), NONE);
            Due.is("force(" + k + ", 0)", x.force(k, 0), NONE);
            Due.is("edge(" + k + ")", x.edge(k), NONE);
            Due.is("empty(" + k + ")", x.empty(k), NONE);
        }
        KingsBalance other = new KingsBalance();
        other.king(5, 5);
        Due.is("count(0) when another object has one", x.count(0), 0);
    }

    private static void promise02Numbers() {
        Due.says(2, "KINGS are numbered from 0 on, 7 at most");
        KingsBalance x = new KingsBalance();
        for (int k = 0; k < 7; k++) {
            Due.is("of(" + k + ", 0) ahead of him", x.of(k, 0), NONE);
            Due.is("king " + k, x.king(k, 3 * k), k);
            Due.is("of(" + k + ", 0)", x.of(k, 0), k);
            Due.is("of(" + k + ", 1)", x.of(k, 1), 3 * k);
        }
        for (int i = 7; i < 20; i++) {
            Due.is("king " + i, x.king(5, 5), FULL);
            Due.is("of(" + i + ", 0)", x.of(i, 0), NONE);
        }
        Due.is("count(0)", x.count(0), 7);
        Due.is("count(1)", x.count(1), 7);
        Due.is("of(6, 0)", x.of(6, 0), 6);
        Due.says(2, "Each is alive, or FALLEN (by a war)");
        x.standing(1, 0);
        Due.is("lead(0, 6, 0)", x.lead(0, 6, 0), 1);
        Due.is("count(1)", x.count(1), 6);
        Due.is("king(5, 5): the FALLEN are KINGS, too", x.king(5, 5), FULL);
        Due.is("count(0)", x.count(0), 7);
        Due.is("of(0, 2)", x.of(0, 2), 1);
        KingsBalance y = Play.kings(9, 0, 0, 0);
        y.standing(1, 0);
        y.lead(0, 0, 1);
        Due.is("king(3, 3) behind a FALLEN one", y.king(3, 3), 2);
        Due.is("of(2, 2)", y.of(2, 2), 0);
        Due.is("count(1)", y.count(1), 2);
    }

    private static void promise02Bounds() {
        Due.says(2, "STRENGTH (0 .. 99)");
        int[] inside = {0, 1, 98, 99};
        KingsBalance x = new KingsBalance();
        for (int k = 0; k < 4; k++) {
            Due.is("king(" + inside[k] + ", 0)", x.king(inside[k], 0), k);
            Due.is("of(" + k + ", 0)", x.of(k, 0), inside[k]);
        }
        for (int n : Bounds.outside(0, 99)) Due.is("king(" + n + ", 0)", x.king(n, 0), BAD);
        Due.is("count(0)", x.count(0), 4);
        Due.says(2, "a PLACE (0 .. 40)");
        int[] places = {0, 1, 39, 40};
        x = new KingsBalance();
        for (int k = 0; k < 4; k++) {
            Due.is("king(7, " + places[k] + ")", x.king(7, places[k]), k);
            Due.is("of(" + k + ", 1)", x.of(k, 1), places[k]);
        }
        for (int n : Bounds.outside(0, 40)) Due.is("king(7, " + n + ")", x.king(7, n), BAD);
        Due.is("king(100, 41)", x.king(100, 41), BAD);
        Due.is("count(0)", x.count(0), 4);
        Due.says(2, "BAD; FULL.");
        KingsBalance full = seven();
        Due.is("king(99, 40)", full.king(99, 40), FULL);
        Due.is("king(100, 0)", full.king(100, 0), BAD);
        Due.is("king(0, 41)", full.king(0, 41), BAD);
        Due.is("king(-1, -1)", full.king(-1, -1), BAD);
        Due.is("count(0)", full.count(0), 7);
    }

    private static void promise03() {
        Due.says(3, "what 0 STRENGTH, 1 PLACE, 2 whether he is FALLEN, 3 whose his LAND is");
        KingsBalance x = Play.kings(99, 40, 0, 0);
        int[][] due = {{99, 40, 0, 0}, {0, 0, 0, 1}};
        for (int k = 0; k < 2; k++) {
            for (int what = 0; what < 4; what++) Due.is("of(" + k + ", " + what + ")", x.of(k, what), due[k][what]);
        }
        Due.says(3, "NONE there is no such KING, STANDING, KIND, what, i");
        for (int what : Bounds.outside(0, 3)) Due.is("of(0, " + what + ")", x.of(0, what), NONE);
        for (int k : Bounds.outside(0, 1)) Due.is("of(" + k + ", 0)", x.of(k, 0), NONE);
        Due.is("of(2, 4)", x.of(2, 4), NONE);
        KingsBalance full = seven();
        Due.is("of(6, 0)", full.of(6, 0), 16);
        for (int k : Bounds.outside(0, 6)) Due.is("of(" + k + ", 1) of seven", full.of(k, 1), NONE);
        for (int k : Bounds.outside(0, -1)) Due.is("of(" + k + ", 2) of none", new KingsBalance().of(k, 2), NONE);
    }

    private static void promise03Fallen() {
        Due.says(3, "his own number; behind a war the KING to whom it went");
        KingsBalance x = Play.kings(10, 0, 10, 9, 30, 4, 90, 7);
        x.standing(1, 0);
        Due.is("lead(0, 0, 1): lost", x.lead(0, 0, 1), 0);
        Due.is("of(0, 3) of one who lost as a", x.of(0, 3), 0);
        Due.is("of(1, 3) of one who was not beaten", x.of(1, 3), 1);
        Due.is("lead(0, 2, 1)", x.lead(0, 2, 1), 1);
        Due.is("of(1, 3)", x.of(1, 3), 2);
        Due.is("of(2, 3)", x.of(2, 3), 2);
        Due.is("lead(0, 3, 2)", x.lead(0, 3, 2), 1);
        Due.is("of(2, 3)", x.of(2, 3), 3);
        Due.is("of(1, 3) went to KING 2", x.of(1, 3), 2);
        Due.is("of(3, 3)", x.of(3, 3), 3);
        Due.says(3, "FALLEN ones have STRENGTH 0");
        Due.is("of(1, 0)", x.of(1, 0), 0);
        Due.is("of(2, 0)", x.of(2, 0), 0);
        Due.is("of(1, 1): his PLACE stays", x.of(1, 1), 9);
        Due.is("of(2, 2)", x.of(2, 2), 1);
    }

    private static void promise04() {
        Due.says(4, "STRENGTH (0 .. 99)");
        KingsBalance x = Play.kings(50, 0, 60, 0);
        int was = 50;
        for (int n : new int[] {0, 99, 1, 98}) {
            Due.is("arm(0, " + n + ")", x.arm(0, n), was);
            Due.is("of(0, 0)", x.of(0, 0), n);
            was = n;
        }
        for (int n : Bounds.outside(0, 99)) Due.is("arm(0, " + n + ")", x.arm(0, n), BAD);
        Due.is("of(0, 0) behind BAD", x.of(0, 0), 98);
        Due.is("of(1, 0)", x.of(1, 0), 60);
        Due.says(4, "NONE; BAD; STATE: FALLEN.");
        for (int k : Bounds.outside(0, 1)) Due.is("arm(" + k + ", 5)", x.arm(k, 5), NONE);
        Due.is("arm(2, 100)", x.arm(2, 100), NONE);
        Due.is("arm(-1, -1)", x.arm(-1, -1), NONE);
        x.standing(1, 0);
        x.lead(0, 0, 1);
        Due.is("arm(1, 0)", x.arm(1, 0), STATE);
        Due.is("arm(1, 99)", x.arm(1, 99), STATE);
        Due.is("arm(1, 100)", x.arm(1, 100), BAD);
        Due.is("arm(1, -1)", x.arm(1, -1), BAD);
        Due.is("of(1, 0) behind STATE", x.of(1, 0), 0);
        KingsBalance full = seven();
        Due.is("arm(6, 99)", full.arm(6, 99), 16);
        Due.is("arm(7, 99)", full.arm(7, 99), NONE);
    }

    private static void promise05() {
        Due.says(5, "WORTH of a KING's LAND to another KING (0 .. 99; 10 at first)");
        KingsBalance x = seven();
        for (int land = 0; land < 7; land++) {
            for (int k = 0; k < 7; k++) {
                if (land == k) Due.is("worth(" + land + ", " + k + ", 5)", x.worth(land, k, 5), BAD);
                else Due.is("worth(" + land + ", " + k + ")", x.worth(land, k, 10 * land + k), 10);
            }
        }
        for (int land = 0; land < 7; land++) {
            for (int k = 0; k < 7; k++) {
                if (land != k) Due.is("worth(" + land + ", " + k + ") again", x.worth(land, k, 0), 10 * land + k);
            }
        }
        Due.is("worth(6, 5, 99)", x.worth(6, 5, 99), 0);
        for (int n : Bounds.outside(0, 99)) Due.is("worth(6, 5, " + n + ")", x.worth(6, 5, n), BAD);
        Due.is("worth(6, 5, 98) behind BAD", x.worth(6, 5, 98), 99);
        KingsBalance y = Play.kings(1, 1, 2, 2);
        y.worth(0, 1, 3);
        y.king(4, 4);
        Due.is("worth(2, 0, 1) of a later KING", y.worth(2, 0, 1), 10);
        Due.is("worth(0, 2, 1) to a later KING", y.worth(0, 2, 1), 10);
        Due.is("worth(0, 1, 1)", y.worth(0, 1, 1), 3);
        Due.says(5, "BAD a number is not as told (a and b one KING, too)");
        for (int k : Bounds.outside(0, 2)) {
            Due.is("worth(" + k + ", 0, 5)", y.worth(k, 0, 5), NONE);
            Due.is("worth(0, " + k + ", 5)", y.worth(0, k, 5), NONE);
            Due.is("worth(" + k + ", " + k + ", 100)", y.worth(k, k, 100), NONE);
        }
        Due.is("worth(2, 2, 10)", y.worth(2, 2, 10), BAD);
        Due.is("worth(0, 3, 100)", y.worth(0, 3, 100), NONE);
    }

    private static void promise06() {
        Due.says(6, "PACTS of a KING with another one: 0 none (at first)");
        KingsBalance x = seven();
        for (int k = 0; k < 7; k++) {
            for (int with = 0; with < 7; with++) {
                String call = "pact(" + k + ", " + with + ")";
                Due.is(call, x.pact(k, with, (k + 2 * with) % 4), k == with ? BAD : 0);
            }
        }
        for (int k = 0; k < 7; k++) {
            for (int with = 0; with < 7; with++) {
                if (k != with) Due.is("pact(" + k + ", " + with + ") again", x.pact(k, with, 3), (k + 2 * with) % 4);
            }
        }
        int was = 3;
        for (int n : new int[] {0, 1, 2, 3, 0}) {
            Due.is("pact(6, 5, " + n + ")", x.pact(6, 5, n), was);
            was = n;
        }
        for (int n : Bounds.outside(0, 3)) Due.is("pact(6, 5, " + n + ")", x.pact(6, 5, n), BAD);
        Due.is("pact(6, 5, 1) behind BAD", x.pact(6, 5, 1), 0);
        Due.says(6, "NONE; BAD.");
        for (int k : Bounds.outside(0, 6)) {
            Due.is("pact(" + k + ", 0, 1)", x.pact(k, 0, 1), NONE);
            Due.is("pact(0, " + k + ", 1)", x.pact(0, k, 1), NONE);
            Due.is("pact(" + k + ", " + k + ", 4)", x.pact(k, k, 4), NONE);
        }
        Due.is("pact(0, 7, -1)", x.pact(0, 7, -1), NONE);
        Due.is("pact(3, 3, 4)", x.pact(3, 3, 4), BAD);
    }

    private static void promise07Bytes() {
        Due.says(7, "The n lowest bytes of w, the highest first, come behind THE TAPE's: how many it has.");
        String text = "take 123";
        long w = 0;
        for (int i = 0; i < 8; i++) w = w << 8 | text.charAt(i);
        for (int n = 1; n <= 8; n++) {
            KingsBalance x = new KingsBalance();
            // what stands above the n lowest bytes does not count
            long high = n == 8 ? 0 : -1L << 8 * n;
            Due.is("feed of " + (8 - n), n == 8 ? 0 : x.feed(w >>> 8 * n, 8 - n), 8 - n);
            Due.is("feed of " + n, x.feed(w & ~high, n), 8);
            Due.is("world() of both", x.world(), 1);
            if (n < 8) x.feed(w >>> 8 * n, 8 - n);
            Due.is("feed of " + n + " with all above it", x.feed(w | high, n), 8);
            Due.is("world() with all above it", x.world(), 2);
        }
        KingsBalance x = new KingsBalance();
        Due.is("feed ow", x.feed(0x6f77, 2), 2);
        Due.is("world() of ow", x.world(), -10);
        Due.is("feed wo", x.feed(0x776f, 2), 2);
        Due.is("world() of wo", x.world(), -12);
        // a byte is all of its eight bits: w and w with the highest bit are two bytes
        Due.is("feed w with its highest bit", x.feed(0xf7, 1), 1);
        Due.is("world() of that", x.world(), -10);
        Due.is("feed of a w below 0", x.feed(0xf76f726420313233L, 8), 8);
        Due.is("world() of that", x.world(), -10);
        Due.is("feed word 12 and a digit with the highest bit", x.feed(0x776f7264203132b3L, 8), 8);
        Due.is("world() of that", x.world(), -17);
        Due.is("feed word 123", x.feed(0x776f726420313233L, 8), 8);
        Due.is("world() of that", x.world(), 1);
    }

    private static void promise07Bounds() {
        Due.says(7, "BAD: n not 1 .. 8; FULL.");
        KingsBalance x = new KingsBalance();
        Due.is("feed(0, 1)", x.feed(0, 1), 1);
        Due.is("feed(0, 8)", x.feed(0, 8), 9);
        for (int n : Bounds.outside(1, 8)) Due.is("feed(0, " + n + ")", x.feed(0, n), BAD);
        Due.is("feed(MIN, 0)", x.feed(Long.MIN_VALUE, 0), BAD);
        Due.is("feed(MAX, 9)", x.feed(Long.MAX_VALUE, 9), BAD);
        Due.is("feed(MIN, 7)", x.feed(Long.MIN_VALUE, 7), 16);
        Due.is("feed(MAX, 7)", x.feed(Long.MAX_VALUE, 7), 23);
        Due.is("count(4)", x.count(4), 23);
    }

    /** An object with so many bytes on its tape, the first of which can not begin a WORLD. */
    private static KingsBalance fed(int bytes) {
        KingsBalance x = new KingsBalance();
        for (int n = 0; n < bytes; n++) x.feed(120, 1);
        return x;
    }

    private static void promise07Full() {
        Due.says(7, "THE TAPE (bytes, 120 at most)");
        for (int n = 1; n <= 8; n++) {
            for (int more = -1; more <= 8; more++) {
                int ahead = Math.min(120, 120 - n + more);
                KingsBalance x = fed(ahead);
                Due.is("feed of " + n + " behind " + ahead, x.feed(0, n), ahead + n <= 120 ? ahead + n : FULL);
                Due.is("count(4)", x.count(4), ahead + n <= 120 ? ahead + n : ahead);
            }
        }
        KingsBalance x = fed(120);
        Due.says(7, "BAD: n not 1 .. 8; FULL.");
        for (int n : Bounds.outside(1, 8)) Due.is("feed(0, " + n + ") of a full one", x.feed(0, n), BAD);
        for (int n = 1; n <= 8; n++) Due.is("feed(0, " + n + ") of a full one", x.feed(0, n), FULL);
        Due.is("count(4)", x.count(4), 120);
        Due.is("world()", x.world(), -10);
        Due.is("feed behind a world", x.feed(0, 8), 8);
    }

    private static void promise09Refusals() {
        Due.says(9, "COST of a KING with another one. NONE; BAD.");
        KingsBalance x = seven();
        Play.world(x, "cost 5 m<41");
        for (int k = 0; k < 7; k++) {
            for (int other = 0; other < 7; other++) {
                Due.is("cost(" + k + ", " + other + ")", x.cost(k, other), k == other ? BAD : 5);
            }
        }
        for (int k : Bounds.outside(0, 6)) {
            Due.is("cost(" + k + ", 0)", x.cost(k, 0), NONE);
            Due.is("cost(0, " + k + ")", x.cost(0, k), NONE);
            Due.is("cost(" + k + ", " + k + ")", x.cost(k, k), NONE);
        }
        Due.says(9, "Without a WORLD all are 0.");
        KingsBalance y = Play.kings(9, 0, 4, 5);
        Due.is("cost(0, 1)", y.cost(0, 1), 0);
        Due.is("cost(1, 1)", y.cost(1, 1), BAD);
        Due.is("force(0, 40)", y.force(0, 40), 9000);
        y.standing(1, 0);
        Due.is("lead(0, 0, 1)", y.lead(0, 0, 1), 1);
        Due.is("of(0, 0): 9 less 2, and nothing taken", y.of(0, 0), 7);
    }

    private static void promise09Miles() {
        Due.says(9, "MILES: how far PLACES are apart.");
        int[][] places = {{0, 0, 0}, {40, 40, 0}, {0, 40, 40}, {40, 0, 40}, {20, 21, 1}, {21, 20, 1}, {39, 0, 39}, {17, 30, 13}};
        for (int[] p : places) {
            KingsBalance x = Play.kings(1, p[0], 1, p[1]);
            Play.world(x, "cost 1 m=" + p[2] + ";less 1");
            Due.is("cost(0, 1) of places " + p[0] + ", " + p[1], x.cost(0, 1), 1);
            Due.is("cost(1, 0) of places " + p[0] + ", " + p[1], x.cost(1, 0), 1);
            Due.is("force(0, " + p[1] + ")", x.force(0, p[1]), 1000 - p[2]);
        }
    }

    private static void compares(KingsBalance x, int king, int other, char fact, int value) {
        for (int n = Math.max(0, value - 2); n <= value + 2; n++) {
            Play.world(x, "cost 1 " + fact + "<" + n + ";cost 20 " + fact + "=" + n + ";cost 300 " + fact + ">" + n);
            Due.is("cost of " + fact + " " + value + " and " + n, x.cost(king, other), value < n ? 1 : value == n ? 20 : 300);
        }
        Play.world(x, "cost 1 " + fact + "<0;cost 20 " + fact + ">999;cost 300 " + fact + "<999");
        Due.is("cost of " + fact + " " + value + " and 0, 999", x.cost(king, other), 300);
    }

    private static void promise09Compares() {
        Due.says(9, "m MILES between both, s STRENGTH of him whose cost it is, o that of the other one, k his number");
        KingsBalance x = Play.kings(0, 0, 99, 40, 50, 20, 7, 20, 8, 20, 9, 20, 10, 20);
        compares(x, 0, 1, 'm', 40);
        compares(x, 2, 3, 'm', 0);
        compares(x, 0, 1, 's', 0);
        compares(x, 1, 0, 's', 99);
        x = Play.kings(0, 0, 99, 40, 50, 20, 7, 20, 8, 20, 9, 20, 10, 20);
        compares(x, 0, 1, 'o', 99);
        compares(x, 1, 0, 'o', 0);
        compares(x, 0, 6, 'k', 0);
        compares(x, 6, 0, 'k', 6);
        compares(x, 3, 2, 'k', 3);
        Due.says(9, "COST for a KING of a war with (or against) another one");
        x.standing(1, 0);
        Play.world(x, "cost 4 s=0;cost 6 o=0");
        x.lead(0, 1, 2);
        Due.is("cost(2, 1) of one who is FALLEN", x.cost(2, 1), 4);
        Due.is("cost(1, 2) with one who is FALLEN", x.cost(1, 2), 6);
    }

    private static void promise09Sums() {
        Due.says(9, "the n of all cost whose E holds, together");
        KingsBalance x = Play.kings(5, 0, 6, 0);
        String ten = Play.times("cost 99 k<9;", 9) + "cost 99 k<9";
        Due.is("bytes", ten.length(), 119);
        Due.is("world()", Play.world(x, ten), 1);
        Due.is("cost(0, 1) of ten", x.cost(0, 1), 990);
        Play.world(x, Play.times("cost 999 k<9;", 7) + "cost 999 k<9;cost 1 k<0");
        Due.is("cost(0, 1) of eight of nine", x.cost(0, 1), 7992);
        Play.world(x, "cost 0 k=0;cost 1 k=1;cost 0 k<9");
        Due.is("cost(0, 1) of 0 and 0", x.cost(0, 1), 0);
        Due.is("cost(1, 0) of 1 and 0", x.cost(1, 0), 1);
        Play.world(x, "cost 7 k<0");
        Due.is("cost(0, 1) of none that holds", x.cost(0, 1), 0);
        Play.world(x, "word 1");
        Due.is("cost(0, 1) of none at all", x.cost(0, 1), 0);
        // the last of ten clauses counts, and the first
        Play.world(x, "cost 1 k=0;" + Play.times("word 1;", 8) + "cost 20 k=0");
        Due.is("cost(0, 1) of the first and the tenth", x.cost(0, 1), 21);
    }

    private static void promise09Newest() {
        Due.says(9, "The newest WORLD rules");
        KingsBalance x = Play.kings(5, 0, 6, 1);
        Play.world(x, "cost 7 m=1;less 9");
        Play.world(x, "cost 8 m=1");
        Due.is("cost(0, 1)", x.cost(0, 1), 8);
        Due.is("force(0, 1) without the older less", x.force(0, 1), 5000);
        Due.says(9, "of word, less, take the last n (0 without)");
        Play.world(x, "less 7;" + Play.times("less 5;", 8) + "less 9");
        Due.is("force(0, 1) by the tenth", x.force(0, 1), 4991);
        Play.world(x, "less 9;less 0");
        Due.is("force(0, 1) by a last 0", x.force(0, 1), 5000);
        Play.world(x, "word 9;take 9");
        Due.is("force(0, 1) without less", x.force(0, 1), 5000);
        x.standing(1, 0);
        Play.world(x, "take 99;take 0");
        Due.is("lead(0, 1, 0)", x.lead(0, 1, 0), 1);
        Due.is("of(1, 0) by a last take of 0: 6 less 2", x.of(1, 0), 4);
        String[] worlds = {"take 0;take 50", "cost 1 m=1"};
        for (int i = 0; i < 2; i++) {
            KingsBalance y = Play.kings(5, 0, 6, 1);
            y.standing(1, 0);
            Play.world(y, "word 3;take 99");
            Play.world(y, worlds[i]);
            Due.is("lead(0, 1, 0)", y.lead(0, 1, 0), 1);
            Due.is("of(1, 0) behind " + worlds[i], y.of(1, 0), i == 0 ? 6 : 4);
        }
        KingsBalance y = Play.kings(5, 0, 6, 1, 7, 2);
        y.pact(0, 1, 1);
        Play.world(y, "cost 5 k<9;word 0;word 5");
        Due.is("keeps(0, 1, 2) by the last word", y.keeps(0, 1, 2), 1);
        Play.world(y, "cost 5 k<9;word 9;word 4");
        Due.is("keeps(0, 1, 2) by a last word of less", y.keeps(0, 1, 2), 0);
        Play.world(y, "cost 1 k<9;less 3");
        Due.is("keeps(0, 1, 2) without word", y.keeps(0, 1, 2), 0);
    }

    private static void promise10() {
        Due.says(10, "his STRENGTH times 1000, less less times the MILES (0 at least)");
        KingsBalance x = Play.kings(39, 0, 99, 40, 0, 20, 1, 1);
        int[][] due = {{974, 40}, {975, 0}, {976, 0}, {999, 0}};
        for (int[] d : due) {
            Play.world(x, "less " + d[0]);
            Due.is("force(0, 40) by less " + d[0], x.force(0, 40), d[1]);
            Due.is("force(1, 0) by less " + d[0], x.force(1, 0), 99000 - 40 * d[0]);
            Due.is("force(1, 40) by less " + d[0], x.force(1, 40), 99000);
            Due.is("force(2, 20) by less " + d[0], x.force(2, 20), 0);
            Due.is("force(2, 21) by less " + d[0], x.force(2, 21), 0);
            Due.is("force(3, 2) by less " + d[0], x.force(3, 2), 1000 - d[0]);
        }
        Due.says(10, "FORCE of a KING at a PLACE (0 .. 40).");
        for (int p : Bounds.outside(0, 40)) Due.is("force(0, " + p + ")", x.force(0, p), BAD);
        Due.says(10, "NONE; BAD.");
        for (int k : Bounds.outside(0, 3)) {
            Due.is("force(" + k + ", 0)", x.force(k, 0), NONE);
            Due.is("force(" + k + ", 41)", x.force(k, 41), NONE);
        }
        KingsBalance full = seven();
        Due.is("force(6, 40)", full.force(6, 40), 16000);
        Due.is("force(7, 40)", full.force(7, 40), NONE);
        x.standing(1, 0);
        x.lead(0, 1, 0);
        Due.is("force(0, 0) of a FALLEN one", x.force(0, 0), 0);
        Due.is("force(0, 41) of a FALLEN one", x.force(0, 41), BAD);
    }
}
