/** Promises 11 to 16: standings. */
public final class StandingsTest {
    private static final int NONE = KingsBalance.NONE, BAD = KingsBalance.BAD;
    private static final int STATE = KingsBalance.STATE, FULL = KingsBalance.FULL;
    private static final long NO = KingsBalance.NO;

    public static void main(String[] args) {
        promise11();
        promise12();
        promise13Standing();
        promise13Sides();
        promise13League();
        promise13Web();
        promise13Guard();
        promise13True();
        promise13Refusals();
        promise14();
        promise15();
        promise16();
        Due.end("StandingsTest");
    }

    private static void promise11() {
        KingsBalance x = new KingsBalance();
        Due.is("standing(-1, 0)", x.standing(-1, 0), NONE);
        Due.is("standing(7, 0)", x.standing(7, 0), NONE);
        Due.is("standing(7, 10)", x.standing(7, 10), NONE);
        Due.is("standing(0, -1)", x.standing(0, -1), BAD);
        Due.is("standing(0, 10)", x.standing(0, 10), BAD);
        Due.is("count(3)", x.count(3), 0);
        for (int s = 0; s < 7; s++) Due.is("standing(" + s + ", 9)", x.standing(s, 9), s);
        Due.is("standing(6, 0)", x.standing(6, 0), 7);
        Due.is("ninth standing", x.standing(0, 0), FULL);
        Due.is("ninth standing, BAD first", x.standing(0, 10), BAD);
        Due.is("ninth standing, NONE first", x.standing(7, 10), NONE);
        Due.is("count(3)", x.count(3), 8);
        Due.is("as(7, 6)", x.as(7, 6), 0);
        Due.is("as(6, 6)", x.as(6, 6), 9);
    }

    private static void promise12() {
        KingsBalance x = Play.kings(5, 0, 5, 1, 5, 2);
        x.standing(2, 0);
        x.standing(2, 0);
        Due.is("block(0, 2, 0)", x.block(0, 2, 0), 2);
        Due.is("block(0, 2, 6)", x.block(0, 2, 6), 0);
        Due.is("block(1, 2, 1)", x.block(1, 2, 1), 2);
        Due.is("block(0, 0, 7)", x.block(0, 0, 7), BAD);
        Due.is("block(0, 0, -1)", x.block(0, 0, -1), BAD);
        Due.is("block(0, 3, 7)", x.block(0, 3, 7), NONE);
        Due.is("block(2, 0, 0)", x.block(2, 0, 0), NONE);
        Due.is("block(-1, 0, 0)", x.block(-1, 0, 0), NONE);
        Due.is("block(0, -1, 0)", x.block(0, -1, 0), NONE);
        Due.is("block(0, 0, 3)", x.block(0, 0, 3), 0);
        x.king(5, 3);
        Due.is("block(0, 3, 0) of a later king", x.block(0, 3, 0), 3);
        x.arm(3, 99);
        x.lead(1, 3, 0);
        Due.is("block(0, 0, 1) of a fallen one", x.block(0, 0, 1), 3);
    }

    private static void comes(KingsBalance x, int s, int a, int b, int toA, int toB) {
        Due.is("comes(" + s + ", " + a + ", " + b + ", 0)", x.comes(s, a, b, 0), toA);
        Due.is("comes(" + s + ", " + a + ", " + b + ", 1)", x.comes(s, a, b, 1), toB);
    }

    /** Six kings and one of each kind of STANDING, all of v 3. */
    private static KingsBalance court() {
        KingsBalance x = Play.kings(20, 0, 12, 3, 9, 5, 30, 10, 5, 6, 24, 20);
        for (int kind = 0; kind < 7; kind++) x.standing(kind, 3);
        return x;
    }

    private static void promise13Standing() {
        KingsBalance x = court();
        comes(x, 0, 0, 1, 0b010101, 0b101010);
        comes(x, 0, 1, 0, 0b010110, 0b101001);
        comes(x, 0, 2, 4, 0b000101, 0b111010);
        comes(x, 0, 3, 5, 0b011101, 0b100010);
        comes(x, 1, 0, 1, 0b000001, 0b000010);
        comes(x, 1, 5, 2, 0b100000, 0b000100);
        x.lead(1, 3, 4);
        x.lead(1, 3, 1);
        comes(x, 0, 0, 3, 0b000101, 0b101000);
        comes(x, 0, 3, 0, 0b001100, 0b100001);
    }

    private static void promise13Sides() {
        KingsBalance x = court();
        comes(x, 2, 0, 1, 1, 2);
        x.block(2, 1, 0);
        x.block(2, 2, 5);
        x.block(2, 4, 5);
        comes(x, 2, 0, 5, 0b000011, 0b110100);
        comes(x, 2, 4, 1, 0b110100, 0b000011);
        comes(x, 2, 2, 5, 0b000100, 0b100000);
        comes(x, 2, 3, 2, 0b001000, 0b110100);
        x.lead(1, 3, 2);
        comes(x, 2, 0, 5, 0b000011, 0b110000);
    }

    private static void promise13League() {
        KingsBalance x = court();
        // the strengths together are 100
        x.block(4, 0, 3);
        x.arm(5, 24);
        comes(x, 4, 0, 5, 0b001001, 0b100000);
        x.arm(0, 21);
        x.arm(1, 11);
        comes(x, 4, 0, 5, 0b001001, 0b110110);
        comes(x, 4, 3, 2, 0b001001, 0b110110);
        comes(x, 4, 0, 3, 0b000001, 0b111110);
        comes(x, 4, 1, 3, 0b000010, 0b001001);
        comes(x, 4, 5, 2, 0b100000, 0b000100);
        x.arm(1, 13);
        comes(x, 4, 0, 3, 0b000001, 0b001000);
        x.lead(1, 3, 1);
        comes(x, 4, 0, 5, 0b001001, 0b110100);
        KingsBalance y = court();
        y.block(4, 4, 3);
        y.arm(3, 70);
        comes(y, 4, 3, 4, 0b001000, 0b110111);
        comes(y, 4, 4, 5, 0b011000, 0b100111);
    }

    private static void promise13Web() {
        KingsBalance x = court();
        x.pact(2, 1, 1);
        x.pact(3, 1, 2);
        x.pact(4, 0, 2);
        x.pact(5, 0, 1);
        comes(x, 3, 0, 1, 0b010001, 0b001110);
        comes(x, 3, 1, 0, 0b001010, 0b110001);
        comes(x, 3, 2, 3, 0b000100, 0b001000);
        // both apply: he would stand with each of them
        x.pact(4, 1, 1);
        comes(x, 3, 0, 1, 0b000001, 0b001110);
        // the other way he comes to b for his 2, and to a only for a 2
        comes(x, 3, 1, 0, 0b001010, 0b110001);
        x.pact(4, 1, 2);
        comes(x, 3, 1, 0, 0b001010, 0b100001);
        // who stays out of the wars of one stays out of both sides
        x.pact(3, 0, 3);
        comes(x, 3, 0, 1, 0b000001, 0b000110);
        comes(x, 3, 1, 0, 0b000010, 0b100001);
        x.pact(4, 1, 3);
        comes(x, 3, 0, 1, 0b000001, 0b000110);
        // PACTS of a and b themselves change nothing
        x.pact(0, 1, 3);
        x.pact(1, 0, 2);
        comes(x, 3, 0, 1, 0b000001, 0b000110);
        // nor PACTS with others
        x.pact(2, 3, 3);
        comes(x, 3, 0, 1, 0b000001, 0b000110);
        x.lead(1, 3, 2);
        comes(x, 3, 0, 1, 0b000001, 0b000010);
        KingsBalance y = court();
        y.pact(0, 1, 1);
        y.pact(0, 2, 2);
        comes(y, 3, 3, 1, 0b001000, 0b000011);
        comes(y, 3, 2, 3, 0b000101, 0b001000);
        comes(y, 6, 3, 1, 0b001000, 0b000011);
        comes(y, 6, 2, 3, 0b000101, 0b001000);
        comes(y, 6, 4, 5, 0b010000, 0b100000);
    }

    private static void promise13Guard() {
        KingsBalance x = court();
        x.pact(2, 1, 1);
        x.pact(4, 0, 2);
        x.pact(5, 3, 3);
        comes(x, 5, 0, 1, 0b010001, 0b000110);
        comes(x, 5, 0, 3, 0b000001, 0b111110);
        comes(x, 5, 3, 0, 0b001000, 0b010001);
        comes(x, 5, 4, 3, 0b010000, 0b101111);
        x.lead(1, 3, 1);
        comes(x, 5, 0, 3, 0b000001, 0b111100);
        x.standing(5, 9);
        comes(x, 7, 0, 3, 0b010001, 0b001000);
    }

    private static void promise13True() {
        KingsBalance x = court();
        x.pact(2, 1, 1);
        x.pact(3, 1, 2);
        x.pact(4, 1, 1);
        x.pact(4, 0, 2);
        x.pact(5, 0, 2);
        comes(x, 6, 0, 1, 0b100001, 0b001110);
        Play.world(x, "cost 6 k=2&m=5;cost 7 k=3;cost 6 k=5&m=17;cost 90 k<2;word 6");
        comes(x, 6, 0, 1, 0b100001, 0b000110);
        Play.world(x, "cost 7 k=2&m=5;cost 7 k=3&m=7;cost 7 k=5&m=17;word 6");
        comes(x, 6, 0, 1, 0b000001, 0b001010);
        comes(x, 3, 0, 1, 0b100001, 0b001110);
        // against whom it is counts: m=20 is king 5 with king 0, his own side
        Play.world(x, "cost 7 k=5&m=20;word 6");
        comes(x, 6, 0, 1, 0b100001, 0b001110);
        // he who has a PACT with both comes to nobody, though he would break one
        Play.world(x, "cost 7 k=4&m=3;word 6");
        comes(x, 6, 0, 1, 0b100001, 0b001110);
    }

    private static void promise13Refusals() {
        KingsBalance x = court();
        Due.is("comes(7, 0, 1, 0)", x.comes(7, 0, 1, 0), NONE);
        Due.is("comes(-1, 0, 1, 0)", x.comes(-1, 0, 1, 0), NONE);
        Due.is("comes(0, 6, 1, 0)", x.comes(0, 6, 1, 0), NONE);
        Due.is("comes(0, 0, 6, 0)", x.comes(0, 0, 6, 0), NONE);
        Due.is("comes(0, 6, 6, 0)", x.comes(0, 6, 6, 0), NONE);
        Due.is("comes(0, 0, 0, 2)", x.comes(0, 0, 0, 2), NONE);
        Due.is("comes(0, 0, 1, -1)", x.comes(0, 0, 1, -1), NONE);
        Due.is("comes(0, 0, 0, 1)", x.comes(0, 0, 0, 1), BAD);
        x.lead(1, 3, 4);
        Due.is("comes(0, 0, 4, 1)", x.comes(0, 0, 4, 1), STATE);
        Due.is("comes(0, 4, 0, 1)", x.comes(0, 4, 0, 1), STATE);
        Due.is("comes(0, 4, 4, 1)", x.comes(0, 4, 4, 1), BAD);
        Due.is("comes(0, 4, 0, 2)", x.comes(0, 4, 0, 2), NONE);
    }

    private static void promise14() {
        KingsBalance x = court();
        Play.world(x, "less 500;cost 4 m>0;cost 2 o=12");
        x.worth(1, 0, 40);
        x.worth(0, 1, 30);
        Due.is("war(1, 0, 1, 0)", x.war(1, 0, 1, 0), 18500);
        Due.is("war(1, 0, 1, 1)", x.war(1, 0, 1, 1), 12000);
        Due.is("war(1, 0, 1, 2)", x.war(1, 0, 1, 2), 34);
        Due.is("war(1, 1, 0, 0)", x.war(1, 1, 0, 0), 10500);
        Due.is("war(1, 1, 0, 1)", x.war(1, 1, 0, 1), 20000);
        // lost: its cost of 4, and the worth of king 1's own land to king 0
        Due.is("war(1, 1, 0, 2)", x.war(1, 1, 0, 2), -44);
        // 20 at 0, 9 at 5, 5 at 6 with him; 12, 30 at 10, 24 at 20 against them, at 3
        Due.is("war(0, 0, 1, 0)", x.war(0, 0, 1, 0), 18500 + 8000 + 3500);
        Due.is("war(0, 0, 1, 1)", x.war(0, 0, 1, 1), 12000 + 26500 + 15500);
        Due.is("war(0, 0, 1, 2)", x.war(0, 0, 1, 2), -36);
        Play.world(x, "cost 41 k=0");
        Due.is("war(1, 0, 1, 2) too dear", x.war(1, 0, 1, 2), -1);
        // equal sums are no win
        x.arm(0, 12);
        Due.is("war(1, 0, 1, 0) equal", x.war(1, 0, 1, 0), 12000);
        Due.is("war(1, 0, 1, 2) equal", x.war(1, 0, 1, 2), -71);
        Due.is("war(7, 0, 1, 0)", x.war(7, 0, 1, 0), NO);
        Due.is("war(-1, 0, 1, 0)", x.war(-1, 0, 1, 0), NO);
        Due.is("war(1, 6, 1, 0)", x.war(1, 6, 1, 0), NO);
        Due.is("war(1, 0, -1, 0)", x.war(1, 0, -1, 0), NO);
        Due.is("war(1, 0, 1, 3)", x.war(1, 0, 1, 3), NO);
        Due.is("war(1, 0, 1, -1)", x.war(1, 0, 1, -1), NO);
        Due.is("war(1, 2, 2, 0)", x.war(1, 2, 2, 0), NO);
        x.lead(1, 3, 4);
        Due.is("war(1, 0, 4, 0)", x.war(1, 0, 4, 0), NO);
        Due.is("war(1, 4, 0, 0)", x.war(1, 4, 0, 0), NO);
    }

    private static void promise15() {
        KingsBalance x = court();
        Due.is("dares(1, 0, 0)", x.dares(1, 0, 0), 0b010110);
        Due.is("dares(1, 3, 0)", x.dares(1, 3, 0), 0b110111);
        Due.is("dares(1, 4, 0)", x.dares(1, 4, 0), 0);
        Due.is("dares(1, 2, 1)", x.dares(1, 2, 1), 0b101011);
        Due.is("dares(1, 3, 1)", x.dares(1, 3, 1), 0);
        x.worth(2, 0, 0);
        Due.is("dares(1, 0, 0) what is worth nothing", x.dares(1, 0, 0), 0b010010);
        x.worth(2, 0, 1);
        Due.is("dares(1, 0, 0) what is worth 1", x.dares(1, 0, 0), 0b010110);
        Play.world(x, "cost 10 k=1;cost 9 k=3");
        Due.is("dares(1, 1, 0) a gain of 0", x.dares(1, 1, 0), 0);
        Due.is("dares(1, 3, 0) a gain of 1", x.dares(1, 3, 0), 0b110111);
        x.arm(1, 20);
        Due.is("dares(1, 1, 1) of one as strong", x.dares(1, 1, 1), 0b101000);
        x.lead(1, 3, 4);
        Due.is("dares(1, 4, 1) fallen", x.dares(1, 4, 1), 0);
        Due.is("dares(1, 4, 0) fallen", x.dares(1, 4, 0), 0);
        Due.is("dares(1, 3, 0) not the fallen", x.dares(1, 3, 0), 0b100111);
        Due.is("dares(7, 0, 0)", x.dares(7, 0, 0), NONE);
        Due.is("dares(-1, 0, 0)", x.dares(-1, 0, 0), NONE);
        Due.is("dares(0, 6, 0)", x.dares(0, 6, 0), NONE);
        Due.is("dares(0, -1, 0)", x.dares(0, -1, 0), NONE);
        Due.is("dares(0, 0, 2)", x.dares(0, 0, 2), NONE);
        Due.is("dares(0, 0, -1)", x.dares(0, 0, -1), NONE);
    }

    private static void promise16() {
        KingsBalance x = court();
        Due.is("first(1)", x.first(1), 1);
        Due.is("first(7)", x.first(7), NONE);
        Due.is("first(-1)", x.first(-1), NONE);
        x.arm(0, 0);
        Due.is("first(1) of king 1", x.first(1), 10);
        for (int b = 0; b < 5; b++) {
            if (b != 1) x.worth(b, 1, 0);
            if (b != 2) x.worth(b, 2, 0);
        }
        Due.is("first(1) of king 3", x.first(1), 30);
        Play.world(x, "cost 10 !k=5;cost 10 !o=12");
        Due.is("first(1) of king 5", x.first(1), 51);
        Play.world(x, "cost 10 m>0");
        Due.is("first(1) quiet", x.first(1), -5);
        Due.is("first(1) of nobody", lonely().first(0), -5);
    }

    private static KingsBalance lonely() {
        KingsBalance x = new KingsBalance();
        x.standing(1, 0);
        return x;
    }
}
