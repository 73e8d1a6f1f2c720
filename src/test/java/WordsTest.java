/** Promises 17 to 20: words, blocks. */
public final class WordsTest {
    private static final int NONE = KingsBalance.NONE, BAD = KingsBalance.BAD, STATE = KingsBalance.STATE;

    public static void main(String[] args) {
        promise17();
        promise18();
        promise19();
        promise19Holds();
        promise20();
        promise20Rows();
        Due.end("WordsTest");
    }

    private static void promise17() {
        KingsBalance x = Play.kings(20, 0, 12, 3, 9, 5, 30, 10);
        x.standing(1, 0);
        x.pact(0, 1, 1);
        x.pact(2, 1, 2);
        x.pact(3, 1, 3);
        Due.is("keeps(0, 1, 2) without a WORLD", x.keeps(0, 1, 2), 1);
        Due.is("keeps(1, 0, 2) no pact", x.keeps(1, 0, 2), 0);
        Due.is("keeps(3, 1, 2) a pact 3", x.keeps(3, 1, 2), 0);
        Play.world(x, "cost 6 k=0&m=5;cost 7 k=0&m=10;cost 7 k=2;word 6");
        Due.is("keeps(0, 1, 2) no more than word", x.keeps(0, 1, 2), 1);
        Due.is("keeps(0, 1, 3) more than word", x.keeps(0, 1, 3), 0);
        Due.is("keeps(2, 1, 0)", x.keeps(2, 1, 0), 0);
        Due.is("keeps(2, 0, 1) no pact with d", x.keeps(2, 0, 1), 0);
        Due.is("keeps(0, 1, 4)", x.keeps(0, 1, 4), NONE);
        Due.is("keeps(0, 4, 1)", x.keeps(0, 4, 1), NONE);
        Due.is("keeps(4, 0, 1)", x.keeps(4, 0, 1), NONE);
        Due.is("keeps(-1, -1, 1)", x.keeps(-1, -1, 1), NONE);
        Due.is("keeps(0, 0, 1)", x.keeps(0, 0, 1), BAD);
        Due.is("keeps(0, 1, 0)", x.keeps(0, 1, 0), BAD);
        Due.is("keeps(0, 1, 1)", x.keeps(0, 1, 1), BAD);
        x.lead(0, 3, 2);
        Due.is("keeps(2, 1, 0) fallen", x.keeps(2, 1, 0), STATE);
        Due.is("keeps(0, 2, 1) fallen", x.keeps(0, 2, 1), STATE);
        Due.is("keeps(0, 1, 2) fallen", x.keeps(0, 1, 2), STATE);
        Due.is("keeps(2, 2, 1) fallen", x.keeps(2, 2, 1), BAD);
    }

    private static void promise18() {
        KingsBalance x = Play.kings(20, 0, 12, 3, 9, 5, 30, 10);
        x.standing(1, 0);
        x.pact(0, 1, 1);
        x.pact(0, 2, 2);
        x.pact(0, 3, 3);
        Due.is("empty(0) without a WORLD", x.empty(0), 0);
        // with king 0 miles are 3, 5 and 10
        Play.world(x, "cost 7 k=0&m>3;word 6");
        Due.is("empty(0) kept with 2 against 1 alone", x.empty(0), 0b0010);
        Play.world(x, "cost 7 k=0&m<10;word 6");
        Due.is("empty(0) kept against 3", x.empty(0), 0);
        Play.world(x, "cost 7 k=0;word 6");
        Due.is("empty(0) kept against none", x.empty(0), 0b0110);
        Due.is("empty(1) no pacts", x.empty(1), 0);
        Play.world(x, "cost 6 k=0;word 6");
        Due.is("empty(0) no more than word", x.empty(0), 0);
        x.pact(1, 2, 1);
        Play.world(x, "cost 7 k=1&!m=3;word 6");
        Due.is("empty(1) kept against 0 alone", x.empty(1), 0);
        Play.world(x, "cost 7 k=1&!m=7;word 6");
        Due.is("empty(1) kept against 3 alone", x.empty(1), 0);
        Play.world(x, "cost 7 k=1&!m=2;word 6");
        Due.is("empty(1) kept against 2 himself alone", x.empty(1), 0b0100);
        x.pact(1, 2, 0);
        Due.is("empty(4)", x.empty(4), NONE);
        Due.is("empty(-1)", x.empty(-1), NONE);
        Play.world(x, "cost 7 k=0&!m=10;word 6");
        x.pact(3, 0, 1);
        x.lead(0, 3, 2);
        Due.is("empty(0) without the fallen", x.empty(0), 0);
        x.pact(2, 0, 1);
        Due.is("empty(2) of a fallen one", x.empty(2), 0);
        x.lead(0, 3, 1);
        Due.is("empty(0) with the fallen", x.empty(0), 0);
        Due.is("empty(3) there are no others", x.empty(3), 0b0001);
        x.pact(0, 3, 2);
        Due.is("empty(0) there are no others", x.empty(0), 0b1000);
        x.arm(3, 99);
        x.lead(0, 3, 0);
        Due.is("empty(3) alone", x.empty(3), 0);
    }

    private static void promise19() {
        KingsBalance x = new KingsBalance();
        int[] ways = {1, 1, 2, 5, 15, 52, 203};
        for (int k = 0; k < 7; k++) {
            Due.is(k + " kings all(0)", x.all(0), ways[k]);
            Due.is(k + " kings all(1)", x.all(1), ways[k]);
            Due.is(k + " kings all(2)", x.all(2), ways[k]);
            x.king(0, k);
        }
        Due.is("7 kings all(0)", x.all(0), -9);
        Due.is("7 kings all(2)", x.all(2), -9);
        Due.is("7 kings all(3)", x.all(3), NONE);
        Due.is("all(-1)", x.all(-1), NONE);
        x.arm(0, 1);
        x.standing(1, 0);
        x.lead(0, 0, 6);
        x.arm(0, 0);
        Due.is("6 of 7 kings all(0)", x.all(0), 203);
        Due.is("6 of 7 kings all(1)", x.all(1), 203);
    }

    /** Three kings of 5, 6, 6, of whom 0 alone wants anything, the land of 1, and needs 2 for it. */
    private static KingsBalance trio() {
        KingsBalance x = Play.kings(5, 0, 6, 0, 6, 0);
        for (int land = 0; land < 3; land++) {
            for (int k = 0; k < 3; k++) {
                if (land != k && 10 * land + k != 10) x.worth(land, k, 0);
            }
        }
        return x;
    }

    private static void promise19Holds() {
        KingsBalance x = trio();
        // 010 is not quiet; in 001 and 012 he would go to the block of 2
        Due.is("all(0)", x.all(0), 5);
        Due.is("all(1)", x.all(1), 4);
        Due.is("all(2)", x.all(2), 2);
        x.worth(2, 1, 10);
        // 001 is not quiet, too; in 011 and 012 king 1 would go to the block of 0. In 000 king 0 would
        // dare, were 1 alone, but it is 1 himself who would have to
        Due.is("all(1) of two who want", x.all(1), 3);
        Due.is("all(2) of two who want", x.all(2), 1);
        // now he would dare in one of his own, and in 011 and 012 where he is
        x.arm(0, 13);
        x.worth(2, 1, 0);
        Due.is("all(1) as strong as all others", x.all(1), 0);
        x.arm(0, 11);
        x.arm(1, 12);
        Due.is("all(1) stronger", x.all(1), 4);
        Due.is("all(2) stronger", x.all(2), 2);
        x.arm(1, 10);
        // row 011 alone is quiet; in one block with all he would fight alone, and win
        Due.is("all(1) stronger than 1", x.all(1), 1);
        Due.is("all(2) stronger than 1", x.all(2), 0);
    }

    private static void row(KingsBalance x, int i, boolean hold, int... due) {
        for (int k = 0; k < due.length; k++) {
            Due.is("quiet(" + i + ", " + k + ", " + hold + ")", x.quiet(i, k, hold), due[k]);
        }
    }

    private static void promise20() {
        KingsBalance x = trio();
        row(x, 0, false, 0, 0, 0);
        row(x, 1, false, 0, 0, 1);
        row(x, 2, false, 0, 1, 1);
        row(x, 3, false, 0, 1, 2);
        row(x, 4, false, NONE, NONE, NONE);
        row(x, 0, true, 0, 0, 0);
        row(x, 1, true, 0, 1, 1);
        row(x, 2, true, NONE, NONE, NONE);
        row(x, -1, false, NONE, NONE, NONE);
        Due.is("quiet(0, 3, false)", x.quiet(0, 3, false), NONE);
        Due.is("quiet(0, -1, false)", x.quiet(0, -1, false), NONE);
        x.standing(1, 0);
        x.arm(0, 20);
        x.lead(0, 0, 1);
        row(x, 0, false, 0, NONE, 0);
        row(x, 1, true, 0, NONE, 1);
        row(x, 2, false, NONE, NONE, NONE);
        KingsBalance seven = Play.kings(0, 0, 0, 0, 0, 0, 0, 0, 0, 0, 0, 0, 0, 0);
        Due.is("quiet(0, 0, false) of seven", seven.quiet(0, 0, false), -9);
        Due.is("quiet(-1, 0, true) of seven", seven.quiet(-1, 0, true), -9);
        Due.is("quiet(0, 7, true) of seven", seven.quiet(0, 7, true), NONE);
        seven.arm(0, 1);
        seven.standing(1, 0);
        seven.lead(0, 0, 1);
        Due.is("quiet(0, 1, true) of seven, fallen", seven.quiet(0, 1, true), NONE);
        seven.arm(0, 0);
        Due.is("quiet(202, 6, true) of six", seven.quiet(202, 6, true), 5);
        Due.is("quiet(203, 6, true) of six", seven.quiet(203, 6, true), NONE);
    }

    private static void promise20Rows() {
        // nobody has any strength, so that each way is quiet and holds; king 2 has fallen
        KingsBalance x = Play.kings(0, 0, 0, 1, 0, 2, 1, 3, 0, 4);
        x.standing(1, 0);
        x.lead(0, 3, 2);
        x.arm(3, 0);
        int[] kings = {0, 1, 3, 4};
        String[] rows = {"0000", "0001", "0010", "0011", "0012", "0100", "0101", "0102",
            "0110", "0111", "0112", "0120", "0121", "0122", "0123"};
        for (int i = 0; i < rows.length; i++) {
            for (int k = 0; k < 4; k++) {
                Due.is("row " + i + " king " + kings[k], x.quiet(i, kings[k], i % 2 == 0), rows[i].charAt(k) - '0');
            }
        }
        Due.is("row 15", x.quiet(15, 0, false), NONE);
        Due.is("row of the fallen", x.quiet(0, 2, false), NONE);
    }
}
