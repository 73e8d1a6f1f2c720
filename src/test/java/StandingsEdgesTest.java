/** Promises 11 to 16: each sentence that names a boundary, just inside it, just outside, far off. */
public final class StandingsEdgesTest {
    private static final int NONE = KingsBalance.NONE, BAD = KingsBalance.BAD;
    private static final int STATE = KingsBalance.STATE, FULL = KingsBalance.FULL;
    private static final long NO = KingsBalance.NO;

    public static void main(String[] args) {
        promise11();
        promise12();
        promise13Sets();
        promise13Standing();
        promise13Sides();
        promise13League();
        promise13Web();
        promise13Guard();
        promise13True();
        promise13Refusals();
        promise14Wins();
        promise14Gain();
        promise14Refusals();
        promise15();
        promise15Bounds();
        promise16();
        promise16Bounds();
        Due.end("StandingsEdgesTest");
    }

    /** Seven KINGS of one STRENGTH at one PLACE, and a STANDING of each KIND told. */
    private static KingsBalance seven(int strength, int... kinds) {
        KingsBalance x = new KingsBalance();
        for (int k = 0; k < 7; k++) x.king(strength, 0);
        for (int kind : kinds) x.standing(kind, 0);
        return x;
    }

    private static void comes(KingsBalance x, int s, int a, int b, int toA, int toB) {
        Due.is("comes(" + s + ", " + a + ", " + b + ", 0)", x.comes(s, a, b, 0), toA);
        Due.is("comes(" + s + ", " + a + ", " + b + ", 1)", x.comes(s, a, b, 1), toB);
    }

    private static void promise11() {
        Due.says(11, "STANDINGS are numbered from 0 on, 8 at most, of KINDS");
        KingsBalance x = new KingsBalance();
        for (int s = 0; s < 8; s++) {
            Due.is("as(" + s + ", 0) ahead of it", x.as(s, 0), NONE);
            Due.is("standing " + s, x.standing(s % 7, s), s);
            Due.is("as(" + s + ", " + s % 7 + ")", x.as(s, s % 7), s);
        }
        for (int kind = 0; kind < 7; kind++) Due.is("standing(" + kind + ", 0), the ninth", x.standing(kind, 0), FULL);
        Due.is("count(3)", x.count(3), 8);
        Due.is("as(8, 0)", x.as(8, 0), NONE);
        Due.is("as(7, 0)", x.as(7, 0), 7);
        KingsBalance y = new KingsBalance();
        for (int kind : Bounds.outside(0, 6)) Due.is("standing(" + kind + ", 0)", y.standing(kind, 0), NONE);
        Due.says(11, "Each has a number v (0 .. 9)");
        for (int v : Bounds.outside(0, 9)) Due.is("standing(0, " + v + ")", y.standing(0, v), BAD);
        Due.is("count(3)", y.count(3), 0);
        for (int v = 0; v < 8; v++) Due.is("standing(6, " + (9 - v) + ")", y.standing(6, 9 - v), v);
        for (int v = 0; v < 8; v++) Due.is("as(" + v + ", 6)", y.as(v, 6), 9 - v);
        Due.says(11, "NONE: kind; BAD: v; FULL.");
        Due.is("standing(7, 10)", y.standing(7, 10), NONE);
        Due.is("standing(-1, -1)", y.standing(-1, -1), NONE);
        Due.is("standing(7, 0)", y.standing(7, 0), NONE);
        Due.is("standing(0, 10)", y.standing(0, 10), BAD);
        Due.is("standing(6, -1)", y.standing(6, -1), BAD);
        Due.is("standing(6, 9)", y.standing(6, 9), FULL);
        KingsBalance z = new KingsBalance();
        Due.is("standing(7, 10)", z.standing(7, 10), NONE);
        Due.is("count(3)", z.count(3), 0);
    }

    private static void promise12() {
        Due.says(12, "for each KING a BLOCK (0 .. 6; his number at first)");
        KingsBalance x = seven(5, 0, 1, 2, 3, 4, 5, 6, 2);
        for (int s = 0; s < 8; s++) {
            for (int k = 0; k < 7; k++) Due.is("block(" + s + ", " + k + ")", x.block(s, k, (s + 2 * k) % 7), k);
        }
        for (int s = 0; s < 8; s++) {
            for (int k = 0; k < 7; k++) Due.is("block(" + s + ", " + k + ") again", x.block(s, k, 0), (s + 2 * k) % 7);
        }
        int was = 0;
        for (int n : new int[] {6, 0, 5, 1, 6}) {
            Due.is("block(7, 6, " + n + ")", x.block(7, 6, n), was);
            was = n;
        }
        for (int n : Bounds.outside(0, 6)) Due.is("block(7, 6, " + n + ")", x.block(7, 6, n), BAD);
        Due.is("block(7, 6, 1) behind BAD", x.block(7, 6, 1), 6);
        Due.says(12, "NONE; BAD.");
        for (int s : Bounds.outside(0, 7)) Due.is("block(" + s + ", 0, 0)", x.block(s, 0, 0), NONE);
        for (int k : Bounds.outside(0, 6)) Due.is("block(0, " + k + ", 0)", x.block(0, k, 0), NONE);
        for (int n : Bounds.outside(0, 6)) Due.is("block(8, 7, " + n + ")", x.block(8, 7, n), NONE);
        Due.is("block(8, 0, 7)", x.block(8, 0, 7), NONE);
        Due.is("block(0, 7, 7)", x.block(0, 7, 7), NONE);
        KingsBalance y = new KingsBalance();
        y.standing(2, 0);
        Due.is("block(0, 0, 0) ahead of a KING", y.block(0, 0, 0), NONE);
        y.king(3, 3);
        y.king(3, 3);
        Due.is("block(0, 1, 0) of a later KING", y.block(0, 1, 0), 1);
        Due.is("block(1, 1, 0)", y.block(1, 1, 0), NONE);
    }

    private static void promise13Sets() {
        Due.says(13, "sets of KINGS that are alive; a to the one, b to the other side; nobody to both");
        for (int kind = 0; kind < 7; kind++) {
            KingsBalance x = seven(5, kind);
            for (int k = 0; k < 7; k++) {
                x.block(0, k, k / 3);
                for (int with = 0; with < 7; with++) x.pact(k, with, (k + 3 * with) % 4);
            }
            x.arm(6, 50);
            x.arm(2, 0);
            Due.is("lead(0, 6, 2)", x.lead(0, 6, 2), 1);
            for (int a = 0; a < 7; a++) {
                for (int b = 0; b < 7; b++) {
                    if (a == b || a == 2 || b == 2) continue;
                    int toA = x.comes(0, a, b, 0), toB = x.comes(0, a, b, 1);
                    String call = "kind " + kind + ", comes(0, " + a + ", " + b + ")";
                    Due.is(call + ": a to the one", toA >> a & 1, 1);
                    Due.is(call + ": b to the other side", toB >> b & 1, 1);
                    Due.is(call + ": nobody to both", toA & toB, 0);
                    Due.is(call + ": alive", (toA | toB) & ~0b1111011, 0);
                }
            }
        }
    }

    private static void promise13Standing() {
        Due.says(13, "STANDING: to a all others of even numbers, to b of odd ones.");
        KingsBalance x = seven(5, 0);
        comes(x, 0, 0, 1, 0b1010101, 0b0101010);
        comes(x, 0, 1, 0, 0b1010110, 0b0101001);
        comes(x, 0, 6, 4, 0b1000101, 0b0111010);
        comes(x, 0, 5, 3, 0b1110101, 0b0001010);
        comes(x, 0, 6, 5, 0b1010101, 0b0101010);
        comes(x, 0, 3, 6, 0b0011101, 0b1100010);
        KingsBalance two = Play.kings(1, 0, 1, 0);
        two.standing(0, 0);
        comes(two, 0, 1, 0, 0b10, 0b01);
        Due.says(13, "ALONE: nobody else.");
        KingsBalance y = seven(5, 1);
        for (int a = 0; a < 7; a++) {
            for (int b = 0; b < 7; b++) if (a != b) comes(y, 0, a, b, 1 << a, 1 << b);
        }
    }

    private static void promise13Sides() {
        Due.says(13, "SIDES: to b those of b's BLOCK, to a those of a's BLOCK (if these are one BLOCK, nobody).");
        KingsBalance x = seven(5, 2);
        comes(x, 0, 0, 6, 0b0000001, 0b1000000);
        for (int k = 0; k < 7; k++) x.block(0, k, k < 4 ? 6 : 0);
        comes(x, 0, 0, 6, 0b0001111, 0b1110000);
        comes(x, 0, 5, 2, 0b1110000, 0b0001111);
        comes(x, 0, 0, 3, 0b0000001, 0b0001000);
        comes(x, 0, 6, 4, 0b1000000, 0b0010000);
        for (int k = 0; k < 7; k++) x.block(0, k, 3);
        comes(x, 0, 0, 6, 0b0000001, 0b1000000);
        x.block(0, 6, 4);
        comes(x, 0, 0, 6, 0b0111111, 0b1000000);
        comes(x, 0, 6, 0, 0b1000000, 0b0111111);
    }

    private static void promise13League() {
        Due.says(13, "if the STRENGTHS of a's BLOCK together are more than half of those of all");
        KingsBalance x = Play.kings(10, 0, 10, 0, 12, 0, 8, 0, 0, 0);
        x.standing(4, 0);
        x.block(0, 1, 0);
        // 20 of 40, of 39, of 41
        comes(x, 0, 0, 2, 0b00011, 0b00100);
        x.arm(2, 11);
        comes(x, 0, 0, 2, 0b00011, 0b11100);
        comes(x, 0, 1, 4, 0b00011, 0b11100);
        x.arm(2, 13);
        comes(x, 0, 0, 2, 0b00011, 0b00100);
        // the one of whom others are afraid has to be a, not b
        x.arm(2, 11);
        comes(x, 0, 2, 0, 0b00100, 0b00011);
        comes(x, 0, 3, 2, 0b01000, 0b00100);
        Due.says(13, "all KINGS of other BLOCKS come to b (also if b is of a's BLOCK)");
        x.block(0, 4, 0);
        comes(x, 0, 0, 1, 0b00001, 0b01110);
        comes(x, 0, 1, 4, 0b00010, 0b11100);
        comes(x, 0, 4, 3, 0b10011, 0b01100);
        x.arm(2, 12);
        comes(x, 0, 0, 1, 0b00001, 0b00010);
        // one BLOCK of all: there are no others
        for (int k = 0; k < 5; k++) x.block(0, k, 6);
        comes(x, 0, 3, 1, 0b01000, 0b00010);
        KingsBalance none = seven(0, 4);
        comes(none, 0, 0, 1, 1, 2);
        none.arm(0, 1);
        comes(none, 0, 0, 1, 1, 0b1111110);
        comes(none, 0, 1, 0, 2, 1);
        none.arm(6, 1);
        comes(none, 0, 0, 1, 1, 2);
        // who is FALLEN has no STRENGTH in any BLOCK, and comes to nobody
        KingsBalance fallen = Play.kings(30, 0, 20, 0, 25, 0);
        fallen.standing(4, 0);
        fallen.standing(1, 0);
        fallen.arm(1, 40);
        comes(fallen, 0, 0, 2, 1, 4);
        fallen.arm(1, 0);
        fallen.lead(1, 0, 1);
        comes(fallen, 0, 0, 2, 1, 4);
        Due.is("of(0, 0)", fallen.of(0, 0), 30);
    }

    private static void promise13Web() {
        Due.says(13, "not those to whom both apply, nor those that have a PACT 3 with a or b");
        int none = 0, toA = 1, toB = 2;
        int[][] due = {{none, toB, toB, none}, {none, toB, toB, none}, {toA, none, none, none}, {none, none, none, none}};
        for (int king = 0; king < 7; king += 3) {
            int a = king == 3 ? 5 : 4, b = king == 6 ? 0 : 6;
            KingsBalance x = seven(5, 3, 5, 6);
            for (int withA = 0; withA < 4; withA++) {
                for (int withB = 0; withB < 4; withB++) {
                    x.pact(king, a, withA);
                    x.pact(king, b, withB);
                    int bitsA = 1 << a | (due[withA][withB] == toA ? 1 << king : 0);
                    int bitsB = 1 << b | (due[withA][withB] == toB ? 1 << king : 0);
                    comes(x, 0, a, b, bitsA, bitsB);
                    if (b != 0) comes(x, 1, a, b, bitsA, bitsB);
                    comes(x, 2, a, b, bitsA, bitsB);
                }
            }
        }
        // all six of the others at once: three to each
        KingsBalance x = seven(5, 3);
        for (int k = 2; k < 7; k++) x.pact(k, k % 2, k % 2 == 0 ? 2 : 1);
        comes(x, 0, 0, 1, 0b1010101, 0b0101010);
        Due.says(13, "3 he stays out of his wars (also if he has one with the other side)");
        for (int k = 2; k < 7; k++) x.pact(k, (k + 1) % 2, 3);
        comes(x, 0, 0, 1, 1, 2);
        comes(x, 0, 1, 0, 2, 1);
        for (int k = 2; k < 7; k++) x.pact(k, (k + 1) % 2, 0);
        comes(x, 0, 0, 1, 0b1010101, 0b0101010);
        // he stays out of the wars of that one alone
        for (int k = 2; k < 7; k++) x.pact(k, k == 6 ? 5 : 6, 3);
        comes(x, 0, 0, 1, 0b1010101, 0b0101010);
        comes(x, 0, 0, 6, 1, 0b1000000);
        Due.says(13, "1 he stands with him if that one is attacked, 2 also if that one attacks");
        // PACTS of a or b with him do not call him
        KingsBalance y = seven(5, 3);
        for (int k = 2; k < 7; k++) {
            y.pact(0, k, 2);
            y.pact(1, k, 2);
        }
        comes(y, 0, 0, 1, 1, 2);
    }

    private static void promise13Guard() {
        Due.says(13, "GUARD: as WEB, but if b is KING v, all others come to b.");
        for (int v = 0; v < 10; v++) {
            KingsBalance x = seven(5);
            x.standing(5, v);
            x.pact(2, 0, 2);
            x.pact(3, 6, 1);
            x.pact(4, 6, 3);
            comes(x, 0, 0, 6, v == 6 ? 0b0000001 : 0b0000101, v == 6 ? 0b1111110 : 0b1001000);
            comes(x, 0, 6, 0, 0b1000000, v == 0 ? 0b0111111 : 0b0000101);
            comes(x, 0, 1, 5, 0b0000010, v == 5 ? 0b1111101 : 0b0100000);
        }
        // a KING v who is not there, or not yet
        KingsBalance x = Play.kings(5, 0, 5, 0);
        x.standing(5, 2);
        comes(x, 0, 0, 1, 1, 2);
        x.king(5, 0);
        x.king(5, 0);
        comes(x, 0, 0, 2, 1, 0b1110);
        comes(x, 0, 2, 0, 4, 1);
        x.arm(3, 0);
        x.standing(1, 0);
        x.lead(1, 0, 3);
        comes(x, 0, 0, 2, 1, 0b0110);
    }

    private static void promise13True() {
        Due.says(13, "those alone that KEEP their word (see 3) with b against a, with a against b");
        KingsBalance x = Play.kings(5, 0, 5, 20, 5, 3, 5, 15, 5, 0, 5, 0, 5, 0);
        x.standing(6, 0);
        comes(x, 0, 0, 1, 1, 2);
        x.pact(2, 1, 1);
        x.pact(3, 0, 2);
        x.pact(4, 0, 2);
        x.pact(4, 1, 1);
        // 2 comes to b, against a; 3 to a, against b; 4 to neither, whatever it costs
        comes(x, 0, 0, 1, 0b0001001, 0b0000110);
        int[][] due = {{4, 1, 2}, {5, 1, 6}, {6, 9, 6}, {999, 9, 6}};
        for (int[] d : due) {
            Play.world(x, "cost 5 k=2;cost 6 k=3;word " + d[0]);
            comes(x, 0, 0, 1, d[1], d[2]);
        }
        Play.world(x, "cost 1 k=2&m=3;cost 1 k=3&m=5");
        comes(x, 0, 0, 1, 1, 2);
        Play.world(x, "cost 1 k=2&m=17;cost 1 k=3&m=15");
        comes(x, 0, 0, 1, 9, 6);
        Play.world(x, "cost 0 k<9");
        comes(x, 0, 0, 1, 9, 6);
        // a and b themselves are there, whatever it costs them
        Play.world(x, "cost 999 k<2");
        comes(x, 0, 0, 1, 9, 6);
        Play.world(x, "cost 1 k=4");
        comes(x, 0, 0, 1, 9, 6);
        x.pact(4, 1, 3);
        comes(x, 0, 0, 1, 9, 6);
    }

    private static void promise13Refusals() {
        Due.says(13, "what 0 to a (with a), 1 to b (with b), as bits. NONE; BAD; STATE: one is FALLEN.");
        KingsBalance x = seven(5, 0, 1, 2, 3, 4, 5, 6, 0);
        x.arm(6, 50);
        Due.is("lead(1, 6, 2)", x.lead(1, 6, 2), 1);
        for (int what : Bounds.outside(0, 1)) Due.is("comes(0, 0, 1, " + what + ")", x.comes(0, 0, 1, what), NONE);
        for (int s : Bounds.outside(0, 7)) Due.is("comes(" + s + ", 0, 1, 0)", x.comes(s, 0, 1, 0), NONE);
        for (int k : Bounds.outside(0, 6)) {
            Due.is("comes(0, " + k + ", 1, 0)", x.comes(0, k, 1, 0), NONE);
            Due.is("comes(0, 0, " + k + ", 1)", x.comes(0, 0, k, 1), NONE);
            Due.is("comes(0, " + k + ", " + k + ", 1)", x.comes(0, k, k, 1), NONE);
            Due.is("comes(0, 2, " + k + ", 1)", x.comes(0, 2, k, 1), NONE);
        }
        Due.is("comes(7, 0, 1, 0)", x.comes(7, 0, 1, 0), 0b1010001);
        Due.is("comes(0, 3, 3, 0)", x.comes(0, 3, 3, 0), BAD);
        Due.is("comes(0, 2, 2, 0)", x.comes(0, 2, 2, 0), BAD);
        Due.is("comes(0, 2, 3, 0)", x.comes(0, 2, 3, 0), STATE);
        Due.is("comes(0, 3, 2, 1)", x.comes(0, 3, 2, 1), STATE);
        Due.is("comes(8, 3, 3, 0)", x.comes(8, 3, 3, 0), NONE);
        Due.is("comes(0, 3, 3, 2)", x.comes(0, 3, 3, 2), NONE);
        Due.is("comes(8, 2, 3, 0)", x.comes(8, 2, 3, 0), NONE);
        Due.is("comes(0, 2, 3, -1)", x.comes(0, 2, 3, -1), NONE);
        Due.is("comes(0, 2, 2, 2)", x.comes(0, 2, 2, 2), NONE);
    }

    private static void promise14Wins() {
        Due.says(14, "FORCES of both sides at b's PLACE, together; a's side WINS if its sum is greater");
        KingsBalance x = Play.kings(11, 5, 10, 5, 1, 6);
        x.standing(2, 0);
        x.block(0, 2, 1);
        // 11000 against 10000 and 1000 less a mile
        Due.is("war(0, 0, 1, 1)", x.war(0, 0, 1, 1), 11000);
        Due.is("war(0, 0, 1, 2) even", x.war(0, 0, 1, 2), -10);
        Play.world(x, "less 1");
        Due.is("war(0, 0, 1, 0)", x.war(0, 0, 1, 0), 11000);
        Due.is("war(0, 0, 1, 1)", x.war(0, 0, 1, 1), 10999);
        Due.is("war(0, 0, 1, 2) one more", x.war(0, 0, 1, 2), 10);
        x.block(0, 2, 0);
        x.arm(0, 9);
        Due.is("war(0, 0, 1, 0)", x.war(0, 0, 1, 0), 9999);
        Due.is("war(0, 0, 1, 1)", x.war(0, 0, 1, 1), 10000);
        Due.is("war(0, 0, 1, 2) one less", x.war(0, 0, 1, 2), -10);
        KingsBalance none = Play.kings(0, 0, 0, 0);
        none.standing(1, 0);
        Due.is("war(0, 0, 1, 0) of nothing", none.war(0, 0, 1, 0), 0);
        Due.is("war(0, 0, 1, 1) of nothing", none.war(0, 0, 1, 1), 0);
        Due.is("war(0, 0, 1, 2) of nothing", none.war(0, 0, 1, 2), -10);
        none.arm(0, 1);
        Due.is("war(0, 0, 1, 2) of 1 against 0", none.war(0, 0, 1, 2), 10);
        // the greatest sums: six against one
        KingsBalance full = seven(99, 5, 2);
        Due.is("war(0, 6, 0, 0)", full.war(0, 6, 0, 0), 99000);
        Due.is("war(0, 6, 0, 1)", full.war(0, 6, 0, 1), 594000);
        for (int k = 0; k < 6; k++) full.block(1, k, 0);
        Due.is("war(1, 5, 6, 0)", full.war(1, 5, 6, 0), 594000);
        Due.is("war(1, 5, 6, 1)", full.war(1, 5, 6, 1), 99000);
        // each one's FORCE is 0 at least, so that he who is too far takes nothing away
        KingsBalance far = Play.kings(10, 0, 5, 0, 1, 40, 1, 39);
        far.standing(2, 0);
        far.block(0, 2, 0);
        far.block(0, 3, 1);
        Play.world(far, "less 900");
        Due.is("war(0, 0, 1, 0) with one from afar", far.war(0, 0, 1, 0), 10000);
        Due.is("war(0, 0, 1, 1) with one from afar", far.war(0, 0, 1, 1), 5000);
    }

    private static void promise14Gain() {
        Due.says(14, "GAIN of a: if it WINS the WORTH of b's LAND to a, less COST of a with b; if not, less COST, and less WORTH of his own LAND to b.");
        int[] worths = {0, 1, 98, 99};
        for (int worth : worths) {
            for (int cost : new int[] {0, 1, 98, 99, 100, 999}) {
                KingsBalance x = Play.kings(20, 0, 10, 0);
                x.standing(1, 0);
                Play.world(x, "cost " + cost + " k<9");
                x.worth(1, 0, worth);
                x.worth(0, 1, 99 - worth);
                Due.is("war(0, 0, 1, 2) of " + worth + " and " + cost, x.war(0, 0, 1, 2), worth - cost);
                Due.is("war(0, 1, 0, 2) of " + worth + " and " + cost, x.war(0, 1, 0, 2), -cost - worth);
            }
        }
        KingsBalance x = Play.kings(20, 0, 10, 0);
        x.standing(1, 0);
        Play.world(x, "cost 4 k=0;cost 30 k=1;cost 500 k>1");
        Due.is("war(0, 0, 1, 2): his own COST", x.war(0, 0, 1, 2), 6);
        Due.is("war(0, 1, 0, 2): his own COST", x.war(0, 1, 0, 2), -40);
        Play.world(x, Play.times("cost 999 k<9;", 8) + "cost 999 k<9");
        x.worth(1, 0, 99);
        Due.is("war(0, 0, 1, 2) of the highest COST", x.war(0, 0, 1, 2), 99 - 8991);
        Due.is("war(0, 1, 0, 2) of the highest COST", x.war(0, 1, 0, 2), -99 - 8991);
    }

    private static void promise14Refusals() {
        Due.says(14, "NO: no such STANDING, KING, what; a is b, FALLEN ones.");
        KingsBalance x = seven(5, 0, 1, 2, 3, 4, 5, 6, 1);
        x.arm(6, 50);
        Due.is("lead(1, 6, 2)", x.lead(1, 6, 2), 1);
        for (int what : Bounds.outside(0, 2)) Due.is("war(1, 0, 1, " + what + ")", x.war(1, 0, 1, what), NO);
        for (int s : Bounds.outside(0, 7)) Due.is("war(" + s + ", 0, 1, 0)", x.war(s, 0, 1, 0), NO);
        for (int k : Bounds.outside(0, 6)) {
            Due.is("war(1, " + k + ", 1, 0)", x.war(1, k, 1, 0), NO);
            Due.is("war(1, 0, " + k + ", 1)", x.war(1, 0, k, 1), NO);
        }
        for (int k = 0; k < 7; k++) {
            Due.is("war(1, " + k + ", " + k + ", 2)", x.war(1, k, k, 2), NO);
            Due.is("war(1, 2, " + k + ", 0)", x.war(1, 2, k, 0), NO);
            Due.is("war(1, " + k + ", 2, 1)", x.war(1, k, 2, 1), NO);
        }
        // 50 less 50 * 5000 / 100000
        Due.is("war(7, 6, 5, 0)", x.war(7, 6, 5, 0), 48000);
        Due.is("war(7, 6, 5, 2)", x.war(7, 6, 5, 2), 10);
        Due.says(14, "There is no such number.");
        Due.is("NO", KingsBalance.NO, -9223372036854775808L);
    }

    private static void promise15() {
        Due.says(15, "a DARES b if GAIN is above 0 (both alive, not the same)");
        int[][] due = {{0, 0, 0}, {0, 1, 0}, {1, 0, 1}, {1, 1, 0}, {10, 9, 1}, {10, 10, 0}, {10, 11, 0}, {99, 98, 1}, {99, 99, 0}, {99, 999, 0}};
        for (int[] d : due) {
            KingsBalance x = Play.kings(20, 0, 10, 0);
            x.standing(1, 0);
            x.worth(1, 0, d[0]);
            Play.world(x, "cost " + d[1] + " k=0");
            Due.is("dares(0, 0, 0) of " + d[0] + " and " + d[1], x.dares(0, 0, 0), d[2] * 2);
            Due.is("dares(0, 1, 1) of " + d[0] + " and " + d[1], x.dares(0, 1, 1), d[2]);
            Due.is("dares(0, 1, 0) of " + d[0] + " and " + d[1], x.dares(0, 1, 0), 0);
            Due.is("dares(0, 0, 1) of " + d[0] + " and " + d[1], x.dares(0, 0, 1), 0);
        }
        KingsBalance x = seven(5, 1);
        for (int k = 0; k < 7; k++) x.arm(k, 10 + k);
        for (int k = 0; k < 7; k++) {
            Due.is("dares(0, " + k + ", 0) of seven", x.dares(0, k, 0), (1 << k) - 1);
            Due.is("dares(0, " + k + ", 1) of seven", x.dares(0, k, 1), 0b1111111 & ~((2 << k) - 1));
        }
        Due.says(15, "FALLEN ones have STRENGTH 0, attack nobody, are not attacked, come to nobody.");
        Due.is("lead(0, 6, 0)", x.lead(0, 6, 0), 1);
        Due.is("of(6, 0)", x.of(6, 0), 11);
        Due.is("dares(0, 0, 0)", x.dares(0, 0, 0), 0);
        Due.is("dares(0, 0, 1)", x.dares(0, 0, 1), 0);
        Due.is("dares(0, 5, 0)", x.dares(0, 5, 0), 0b1011110);
        Due.is("dares(0, 1, 1)", x.dares(0, 1, 1), 0b0111100);
        KingsBalance one = Play.kings(99, 0);
        one.standing(1, 0);
        Due.is("dares(0, 0, 0) of one", one.dares(0, 0, 0), 0);
        Due.is("dares(0, 0, 1) of one", one.dares(0, 0, 1), 0);
    }

    private static void promise15Bounds() {
        Due.says(15, "Whom a KING DARES (what 0), by whom he is DARED (1), as bits. NONE.");
        KingsBalance x = seven(5, 0, 1, 2, 3, 4, 5, 6, 1);
        x.arm(6, 6);
        Due.is("dares(7, 6, 0)", x.dares(7, 6, 0), 0b0111111);
        Due.is("dares(7, 0, 1)", x.dares(7, 0, 1), 0b1000000);
        for (int s : Bounds.outside(0, 7)) {
            Due.is("dares(" + s + ", 6, 0)", x.dares(s, 6, 0), NONE);
            Due.is("dares(" + s + ", 6, 1)", x.dares(s, 6, 1), NONE);
        }
        for (int k : Bounds.outside(0, 6)) {
            Due.is("dares(1, " + k + ", 0)", x.dares(1, k, 0), NONE);
            Due.is("dares(1, " + k + ", 1)", x.dares(1, k, 1), NONE);
        }
        for (int what : Bounds.outside(0, 1)) Due.is("dares(1, 6, " + what + ")", x.dares(1, 6, what), NONE);
        Due.is("dares(8, 7, 2)", x.dares(8, 7, 2), NONE);
    }

    /** An object in which all are of one STRENGTH but for a, and nobody wants anything but a the LAND of b. */
    private static KingsBalance wants(int a, int b) {
        KingsBalance x = seven(5, 1);
        for (int land = 0; land < 7; land++) {
            for (int k = 0; k < 7; k++) x.worth(land, k, land == b && k == a ? 1 : 0);
        }
        x.arm(a, 6);
        return x;
    }

    private static void promise16() {
        Due.says(16, "FIRST: the first (a, b), as a row, that does.");
        for (int a = 0; a < 7; a++) {
            for (int b = 0; b < 7; b++) {
                if (a == b) continue;
                KingsBalance x = wants(a, b);
                Due.is("first(0) of " + a + " and " + b, x.first(0), 10 * a + b);
                // a later b is not the first, and an earlier one is
                if (b < 6 && a != b + 1) x.worth(b + 1, a, 1);
                Due.is("first(0) ahead of a later one", x.first(0), 10 * a + b);
                if (b > 0 && a != b - 1) {
                    x.worth(b - 1, a, 1);
                    Due.is("first(0) of an earlier one", x.first(0), 10 * a + b - 1);
                }
            }
        }
        KingsBalance x = wants(6, 0);
        x.arm(0, 7);
        x.worth(6, 0, 1);
        Due.is("first(0) of an earlier a, though of a later b", x.first(0), 6);
        x.worth(6, 0, 0);
        Due.is("first(0) of nobody", x.first(0), -5);
    }

    private static void promise16Bounds() {
        Due.says(16, "FIRST: 10 times a and b; -5: it is QUIET. NONE.");
        KingsBalance x = new KingsBalance();
        for (int kind = 0; kind < 7; kind++) x.standing(kind, kind);
        x.standing(1, 9);
        for (int s = 0; s < 8; s++) Due.is("first(" + s + ") without KINGS", x.first(s), -5);
        x.king(99, 0);
        for (int s = 0; s < 8; s++) Due.is("first(" + s + ") of one KING", x.first(s), -5);
        x.king(0, 40);
        Due.is("first(7) of two", x.first(7), 1);
        x.arm(1, 99);
        for (int s = 0; s < 8; s++) Due.is("first(" + s + ") of two as strong", x.first(s), -5);
        for (int s : Bounds.outside(0, 7)) Due.is("first(" + s + ")", x.first(s), NONE);
        for (int s : Bounds.outside(0, -1)) Due.is("first(" + s + ") of a new object", new KingsBalance().first(s), NONE);
        x.arm(1, 0);
        x.lead(7, 0, 1);
        for (int s = 0; s < 8; s++) Due.is("first(" + s + ") of the last one alive", x.first(s), -5);
    }
}
