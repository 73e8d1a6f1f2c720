/** Promises 17 to 20: each sentence that names a boundary, just inside it, just outside, far off. */
public final class WordsEdgesTest {
    private static final int NONE = KingsBalance.NONE, BAD = KingsBalance.BAD, STATE = KingsBalance.STATE;

    public static void main(String[] args) {
        promise17();
        promise17Refusals();
        promise18();
        promise18Alive();
        promise18Refusals();
        promise19Numbers();
        promise19Quiet();
        promise19Holds();
        promise20Rows();
        promise20Index();
        promise20Refusals();
        Due.end("WordsEdgesTest");
    }

    private static KingsBalance seven(int strength) {
        KingsBalance x = new KingsBalance();
        for (int k = 0; k < 7; k++) x.king(strength, 0);
        return x;
    }

    private static void promise17() {
        Due.says(17, "KEEPS his word in a war of d with e, if COST of c with e is no more than word");
        KingsBalance x = Play.kings(5, 0, 5, 3, 5, 7);
        for (int pact = 0; pact < 4; pact++) {
            x.pact(0, 1, pact);
            int kept = pact == 1 || pact == 2 ? 1 : 0;
            int[][] due = {{0, 0, 1}, {0, 1, 1}, {1, 0, 0}, {5, 4, 0}, {5, 5, 1}, {5, 6, 1}, {999, 998, 0}, {999, 999, 1}};
            for (int[] d : due) {
                Play.world(x, "cost " + d[0] + " k=0&m=7;word " + d[1]);
                Due.is("keeps(0, 1, 2) of pact " + pact + ", cost " + d[0] + ", word " + d[1], x.keeps(0, 1, 2), kept * d[2]);
            }
        }
        x.pact(0, 1, 2);
        Play.world(x, "cost 1 k=0&m=3;cost 1 k>0");
        Due.is("keeps(0, 1, 2): COST with d is another one, and so is COST of d", x.keeps(0, 1, 2), 1);
        Play.world(x, "cost 1 m=7");
        Due.is("keeps(0, 1, 2) without word", x.keeps(0, 1, 2), 0);
        Due.says(17, "Whether a KING KEEPS his word with d in a war of d with e: 1, 0 (0: there is no such PACT).");
        Play.world(x, "word 9");
        for (int pact = 0; pact < 4; pact++) {
            x.pact(0, 1, pact);
            x.pact(0, 2, 3 - pact);
            x.pact(1, 0, 3);
            Due.is("keeps(0, 1, 2) of pact " + pact, x.keeps(0, 1, 2), pact % 3 == 0 ? 0 : 1);
            Due.is("keeps(0, 2, 1) of pact " + (3 - pact), x.keeps(0, 2, 1), pact % 3 == 0 ? 0 : 1);
            Due.is("keeps(1, 0, 2) of pact 3", x.keeps(1, 0, 2), 0);
        }
        KingsBalance none = Play.kings(5, 0, 5, 3, 5, 7);
        none.pact(2, 0, 1);
        Due.is("keeps(2, 0, 1) without a WORLD", none.keeps(2, 0, 1), 1);
    }

    private static void promise17Refusals() {
        Due.says(17, "NONE; BAD: two of them are one; STATE: one is FALLEN.");
        KingsBalance x = seven(5);
        x.standing(1, 0);
        x.arm(6, 50);
        x.pact(6, 5, 1);
        Due.is("keeps(6, 5, 4)", x.keeps(6, 5, 4), 1);
        Due.is("lead(0, 6, 2)", x.lead(0, 6, 2), 1);
        for (int k : Bounds.outside(0, 6)) {
            Due.is("keeps(" + k + ", 0, 1)", x.keeps(k, 0, 1), NONE);
            Due.is("keeps(0, " + k + ", 1)", x.keeps(0, k, 1), NONE);
            Due.is("keeps(0, 1, " + k + ")", x.keeps(0, 1, k), NONE);
        }
        for (int k : new int[] {-1, 7}) {
            Due.is("keeps(" + k + ", 1, 1)", x.keeps(k, 1, 1), NONE);
            Due.is("keeps(1, " + k + ", 1)", x.keeps(1, k, 1), NONE);
            Due.is("keeps(1, 1, " + k + ")", x.keeps(1, 1, k), NONE);
            Due.is("keeps(" + k + ", " + k + ", " + k + ")", x.keeps(k, k, k), NONE);
            Due.is("keeps(2, 1, " + k + ") FALLEN, too", x.keeps(2, 1, k), NONE);
        }
        int[][] bad = {{0, 0, 1}, {0, 1, 0}, {1, 0, 0}, {0, 0, 0}, {2, 2, 1}, {2, 1, 2}, {1, 2, 2}, {2, 2, 2}, {2, 0, 0}};
        for (int[] b : bad) Due.is("keeps(" + b[0] + ", " + b[1] + ", " + b[2] + ")", x.keeps(b[0], b[1], b[2]), BAD);
        Due.is("keeps(2, 0, 1)", x.keeps(2, 0, 1), STATE);
        Due.is("keeps(0, 2, 1)", x.keeps(0, 2, 1), STATE);
        Due.is("keeps(0, 1, 2)", x.keeps(0, 1, 2), STATE);
    }

    private static void promise18() {
        Due.says(18, "EMPTY PACTS: those (1, 2) of a KING with another one that he would KEEP against none of the others that are alive");
        KingsBalance x = seven(5);
        for (int k = 1; k < 7; k++) x.pact(0, k, 1 + k % 2);
        Play.world(x, "cost 5 k=0;word 5");
        Due.is("empty(0): no more than word", x.empty(0), 0);
        Play.world(x, "cost 5 k=0;word 4");
        Due.is("empty(0): more than word", x.empty(0), 0b1111110);
        Due.is("empty(1) of no PACTS", x.empty(1), 0);
        x.pact(0, 3, 0);
        x.pact(0, 4, 3);
        Due.is("empty(0) of PACTS 1, 2", x.empty(0), 0b1100110);
        x.pact(6, 0, 2);
        Due.is("empty(6)", x.empty(6), 0);
        // against one alone he would KEEP them: but not that with the one himself
        x.arm(5, 77);
        Play.world(x, "cost 5 k=0&!o=77;word 4");
        Due.is("empty(0) kept against 5 alone", x.empty(0), 0b0100000);
        // against two alone he would KEEP all
        x.arm(1, 77);
        Due.is("empty(0) kept against 1 and 5", x.empty(0), 0);
        // against 0 alone, the first of the others, and against 6 alone, the last of them
        x.arm(0, 44);
        x.arm(6, 55);
        x.pact(3, 1, 1);
        Play.world(x, "cost 5 k=3&!o=44;word 4");
        Due.is("empty(3) kept against 0 alone", x.empty(3), 0);
        Play.world(x, "cost 5 k=3&!o=55;word 4");
        Due.is("empty(3) kept against 6 alone", x.empty(3), 0);
        Play.world(x, "cost 5 k=3&!o=77;word 4");
        x.arm(5, 5);
        Due.is("empty(3) kept against 1 alone, with whom he has it", x.empty(3), 0b0000010);
        KingsBalance last = seven(5);
        last.pact(6, 5, 1);
        last.pact(6, 0, 2);
        Play.world(last, "cost 1 k=6");
        Due.is("empty(6)", last.empty(6), 0b0100001);
        Play.world(last, "word 0");
        Due.is("empty(6) by costs of 0", last.empty(6), 0);
    }

    private static void promise18Alive() {
        Due.says(18, "(all, if there are no others; both alive themselves)");
        KingsBalance two = Play.kings(5, 0, 5, 0);
        for (int pact = 0; pact < 4; pact++) {
            two.pact(0, 1, pact);
            Due.is("empty(0) of two, pact " + pact, two.empty(0), pact % 3 == 0 ? 0 : 2);
            Due.is("empty(1) of two", two.empty(1), 0);
        }
        two.pact(0, 1, 1);
        two.king(5, 0);
        Due.is("empty(0): there is another one", two.empty(0), 0);
        Due.is("empty(0) of one", Play.kings(5, 0).empty(0), 0);
        KingsBalance x = Play.kings(50, 0, 1, 0, 1, 0, 1, 0);
        x.standing(1, 0);
        for (int k = 1; k < 4; k++) {
            x.pact(0, k, 1);
            x.pact(k, 0, 1);
            x.pact(k, k % 3 + 1, 2);
        }
        Due.is("empty(0)", x.empty(0), 0);
        x.lead(0, 0, 1);
        Due.is("empty(0) of three", x.empty(0), 0);
        Due.is("empty(1) FALLEN himself", x.empty(1), 0);
        x.lead(0, 0, 2);
        Due.is("empty(0): no others are alive", x.empty(0), 0b1000);
        Due.is("empty(3): no others are alive", x.empty(3), 0b0001);
        Due.is("empty(2) FALLEN himself", x.empty(2), 0);
        x.lead(0, 0, 3);
        Due.is("empty(0): nobody with whom is alive", x.empty(0), 0);
        Due.is("empty(3) FALLEN himself", x.empty(3), 0);
        // he would KEEP it against 2 alone, and 2 is FALLEN then
        KingsBalance y = Play.kings(50, 0, 5, 0, 1, 9, 5, 0);
        y.standing(1, 0);
        y.pact(1, 0, 1);
        Play.world(y, "cost 1 k=1&!m=9");
        Due.is("empty(1) ahead", y.empty(1), 0);
        y.lead(0, 0, 2);
        Due.is("empty(1) behind", y.empty(1), 1);
    }

    private static void promise18Refusals() {
        Due.says(18, "EMPTY PACTS of a KING, as bits of those with whom. NONE.");
        KingsBalance x = seven(5);
        for (int k : Bounds.outside(0, 6)) Due.is("empty(" + k + ")", x.empty(k), NONE);
        for (int k : Bounds.outside(0, -1)) Due.is("empty(" + k + ") of a new object", new KingsBalance().empty(k), NONE);
        KingsBalance one = Play.kings(5, 0);
        for (int k : Bounds.outside(0, 0)) Due.is("empty(" + k + ") of one", one.empty(k), NONE);
    }

    private static void promise19Numbers() {
        Due.says(19, "ways to part the KINGS that are alive (6 at most, else -9; one way, if nobody is alive)");
        int[] ways = {1, 1, 2, 5, 15, 52, 203};
        KingsBalance x = new KingsBalance();
        for (int alive = 0; alive <= 6; alive++) {
            for (int what = 0; what < 3; what++) Due.is("all(" + what + ") of " + alive, x.all(what), ways[alive]);
            x.king(alive == 6 ? 9 : 0, 0);
        }
        for (int what = 0; what < 3; what++) Due.is("all(" + what + ") of 7", x.all(what), -9);
        x.standing(1, 0);
        Due.is("lead(0, 6, 0)", x.lead(0, 6, 0), 1);
        x.arm(6, 0);
        for (int alive = 6; alive >= 1; alive--) {
            for (int what = 0; what < 3; what++) Due.is("all(" + what + ") of 7, " + alive + " alive", x.all(what), ways[alive]);
            x.arm(6, 9);
            if (alive > 1) Due.is("lead(0, 6, " + (7 - alive) + ")", x.lead(0, 6, 7 - alive), 1);
            x.arm(6, 0);
        }
        Due.says(19, "what 0 how many, 1 how many are QUIET, 2 how many of these HOLD. NONE; -9.");
        for (int what : Bounds.outside(0, 2)) {
            Due.is("all(" + what + ")", x.all(what), NONE);
            Due.is("all(" + what + ") of 7", seven(0).all(what), NONE);
            Due.is("all(" + what + ") of none", new KingsBalance().all(what), NONE);
        }
    }

    /** So many KINGS of STRENGTH 5 who want nothing. */
    private static KingsBalance content(int size) {
        KingsBalance x = new KingsBalance();
        for (int k = 0; k < size; k++) x.king(5, 0);
        for (int land = 0; land < size; land++) {
            for (int k = 0; k < size; k++) x.worth(land, k, 0);
        }
        return x;
    }

    private static void promise19Quiet() {
        Due.says(19, "QUIET ones: those that would be QUIET as SIDES");
        KingsBalance x = content(3);
        Due.is("all(1) of those who want nothing", x.all(1), 5);
        // 0 wants the LAND of 1: with 2 he has 10 against 5, alone 5 against 5
        x.worth(1, 0, 1);
        Due.is("all(1): all but 010", x.all(1), 4);
        x.arm(1, 10);
        Due.is("all(1): 10 against 10", x.all(1), 5);
        x.arm(1, 9);
        Due.is("all(1): 10 against 9", x.all(1), 4);
        x.arm(0, 9);
        Due.is("all(1): 9 against 9 in one BLOCK, alone", x.all(1), 4);
        x.arm(0, 10);
        // 000, 001, 010, 012 are not
        Due.is("all(1): 10 against 9 in one BLOCK, alone", x.all(1), 1);
        x.arm(0, 14);
        Due.is("all(1): 14 against 14", x.all(1), 1);
        x.arm(0, 15);
        Due.is("all(1): 15 against 14", x.all(1), 0);
        Due.is("all(2) of none", x.all(2), 0);
        Due.is("all(0)", x.all(0), 5);
        // the BLOCKS of STANDINGS have no part in it
        x.arm(0, 10);
        x.standing(2, 0);
        x.block(0, 0, 5);
        x.block(0, 2, 5);
        Due.is("all(1) with a STANDING", x.all(1), 1);
        Due.is("block(0, 0, 0) stays", x.block(0, 0, 0), 5);
    }

    private static void promise19Holds() {
        Due.says(19, "HOLDS, if no KING would DARE anybody, were he in another BLOCK of it, or in one of his own (all others as they are)");
        KingsBalance x = content(3);
        Due.is("all(2) of those who want nothing", x.all(2), 5);
        x.worth(1, 0, 1);
        // 001 and 012: he would go to 2
        Due.is("all(2): 000, 011", x.all(2), 2);
        x.worth(1, 2, 1);
        // in 001 and 012 0 would go to 2, in 011 and 012 2 would go to 0
        Due.is("all(1): all but 010", x.all(1), 4);
        Due.is("all(2): 000", x.all(2), 1);
        // six: 0 wants the LAND of 5, who has 11, and needs two more with him
        KingsBalance six = content(6);
        six.arm(5, 11);
        six.worth(5, 0, 1);
        int[] due = sixDue();
        Due.is("all(0) of six", six.all(0), 203);
        Due.is("all(1) of six", six.all(1), due[0]);
        Due.is("all(2) of six", six.all(2), due[1]);
    }

    /** How many ways of six are QUIET, and how many HOLD, by the numbers of those with 0, and in any BLOCK. */
    private static int[] sixDue() {
        int quiet = 0, holding = 0;
        int[] row = new int[6];
        for (int way = 0; way < 46656; way++) {
            int top = 0, rest = way;
            boolean orderly = true;
            for (int k = 0; k < 6; k++) {
                row[k] = rest % 6;
                rest /= 6;
                if (row[k] > top) orderly = false;
                if (row[k] == top) top++;
            }
            if (!orderly) continue;
            int[] size = new int[7];
            for (int k = 1; k < 5; k++) size[row[k]]++;
            boolean dares = false, would = false;
            for (int block = 0; block < 6; block++) {
                // 5 of each, 0 among them, against 11 and 5 of each
                boolean wins = block != row[5] && 5 * (size[block] + 1) > 11 + 5 * size[row[5]];
                if (block == row[0]) dares = wins;
                would |= wins;
            }
            if (!dares) quiet++;
            if (!would) holding++;
        }
        return new int[] {quiet, holding};
    }

    private static void row(KingsBalance x, int i, boolean hold, String due) {
        for (int k = 0; k < due.length(); k++) {
            Due.is("quiet(" + i + ", " + k + ", " + hold + ")", x.quiet(i, k, hold), due.charAt(k) - '0');
        }
    }

    private static void promise20Rows() {
        Due.says(20, "each KING by numbers has the number of a BLOCK, a new BLOCK the least number not had yet");
        String before = "";
        for (int i = 0; i < 203; i++) {
            KingsBalance x = content(6);
            StringBuilder row = new StringBuilder();
            int top = 0;
            for (int k = 0; k < 6; k++) {
                int block = x.quiet(i, k, i % 2 == 0);
                Due.is("row " + i + ", king " + k + ": a BLOCK that is had, or the next one", block >= 0 && block <= top ? 1 : 0, 1);
                if (block == top) top++;
                row.append(block);
            }
            Due.is("row " + row + " behind row " + before, row.toString().compareTo(before) > 0 ? 1 : 0, 1);
            before = row.toString();
        }
        Due.is("the last row is 012345", before.equals("012345") ? 1 : 0, 1);
        Due.says(20, "in the order of their rows");
        KingsBalance x = content(3);
        x.worth(1, 0, 1);
        row(x, 0, false, "000");
        row(x, 1, false, "001");
        row(x, 2, false, "011");
        row(x, 3, false, "012");
        row(x, 0, true, "000");
        row(x, 1, true, "011");
    }

    private static void promise20Index() {
        Due.says(20, "The i-th QUIET one (of those that HOLD, if so): BLOCK of a KING.");
        KingsBalance x = content(3);
        x.worth(1, 0, 1);
        for (int k = 0; k < 3; k++) {
            Due.is("quiet(3, " + k + ", false)", x.quiet(3, k, false), k);
            Due.is("quiet(4, " + k + ", false)", x.quiet(4, k, false), NONE);
            Due.is("quiet(1, " + k + ", true)", x.quiet(1, k, true), k == 0 ? 0 : 1);
            Due.is("quiet(2, " + k + ", true)", x.quiet(2, k, true), NONE);
        }
        for (int i : Bounds.outside(0, 3)) {
            Due.is("quiet(" + i + ", 0, false)", x.quiet(i, 0, false), NONE);
            Due.is("quiet(" + i + ", 0, true)", x.quiet(i, 0, true), NONE);
        }
        KingsBalance one = content(1);
        Due.is("quiet(0, 0, true) of one", one.quiet(0, 0, true), 0);
        Due.is("quiet(1, 0, true) of one", one.quiet(1, 0, true), NONE);
        KingsBalance six = content(6);
        Due.is("quiet(202, 5, false) of six", six.quiet(202, 5, false), 5);
        Due.is("quiet(203, 5, false) of six", six.quiet(203, 5, false), NONE);
        Due.is("quiet(201, 5, true) of six", six.quiet(201, 5, true), 4);
    }

    private static void promise20Refusals() {
        Due.says(20, "NONE: king (FALLEN ones, too), no i-th; -9 (ahead of no i-th).");
        KingsBalance x = seven(0);
        Due.is("quiet(0, 6, false) of seven", x.quiet(0, 6, false), -9);
        for (int i : Bounds.outside(0, 202)) Due.is("quiet(" + i + ", 0, true) of seven", x.quiet(i, 0, true), -9);
        for (int k : Bounds.outside(0, 6)) {
            Due.is("quiet(0, " + k + ", false) of seven", x.quiet(0, k, false), NONE);
            Due.is("quiet(-1, " + k + ", true) of seven", x.quiet(-1, k, true), NONE);
        }
        x.standing(1, 0);
        x.arm(6, 9);
        Due.is("lead(0, 6, 3)", x.lead(0, 6, 3), 1);
        x.arm(6, 0);
        Due.is("quiet(202, 6, true): six are alive", x.quiet(202, 6, true), 5);
        Due.is("quiet(203, 6, true)", x.quiet(203, 6, true), NONE);
        Due.is("quiet(0, 3, true), FALLEN", x.quiet(0, 3, true), NONE);
        Due.is("quiet(-1, 3, false), FALLEN", x.quiet(-1, 3, false), NONE);
        KingsBalance none = new KingsBalance();
        for (int k : Bounds.outside(0, -1)) Due.is("quiet(0, " + k + ", false) of none", none.quiet(0, k, false), NONE);
    }
}
