/** Promises 21 to 28: wars, arms. */
public final class WarsTest {
    private static final int NONE = KingsBalance.NONE, BAD = KingsBalance.BAD, STATE = KingsBalance.STATE;

    public static void main(String[] args) {
        promise21Won();
        promise21Lost();
        promise21Spoils();
        promise21Refusals();
        promise22();
        promise23();
        promise24();
        promise25();
        promise25Turns();
        promise26();
        promise26Order();
        promise27();
        promise28();
        promise28Bars();
        promise28League();
        promise28Refusals();
        Due.end("WarsTest");
    }

    private static void strengths(String when, KingsBalance x, int... due) {
        for (int k = 0; k < due.length; k++) Due.is(when + ": of(" + k + ", 0)", x.of(k, 0), due[k]);
    }

    private static void promise21Won() {
        KingsBalance x = Play.kings(40, 0, 21, 10, 15, 20, 7, 10, 99, 40);
        x.standing(2, 0);
        x.block(0, 2, 0);
        x.block(0, 3, 1);
        Play.world(x, "less 100;take 30");
        // 39000 and 14000 against 21000 and 7000
        Due.is("war sum of a", x.war(0, 0, 1, 0), 53000);
        Due.is("war sum of b", x.war(0, 0, 1, 1), 28000);
        Due.is("lead(0, 0, 1)", x.lead(0, 0, 1), 1);
        // 40 * 28000 / 106000 is 10, 30 * 21 / 100 is 6; 15 * 28000 / 106000 is 3
        strengths("won", x, 36, 0, 12, 3, 99);
        Due.is("of(1, 2)", x.of(1, 2), 1);
        Due.is("of(1, 3)", x.of(1, 3), 0);
        Due.is("of(3, 2)", x.of(3, 2), 0);
        Due.is("of(3, 3)", x.of(3, 3), 3);
        Due.is("count(6)", x.count(6), 1);
        Due.is("count(1)", x.count(1), 4);
    }

    private static void promise21Lost() {
        KingsBalance x = Play.kings(21, 0, 40, 10, 15, 20, 7, 10, 99, 40);
        x.standing(2, 0);
        x.block(0, 3, 0);
        x.block(0, 2, 1);
        Play.world(x, "less 100;take 30");
        // 20000 and 7000 against 40000 and 14000
        Due.is("lead(0, 0, 1)", x.lead(0, 0, 1), 0);
        // 40 * 27000 / 108000 is 10, 15 * 27000 / 108000 is 3
        strengths("lost", x, 10, 30, 12, 3, 99);
        Due.is("count(1)", x.count(1), 5);
        Due.is("of(0, 3)", x.of(0, 3), 0);
        Due.is("count(6)", x.count(6), 1);
        KingsBalance even = Play.kings(9, 0, 9, 0);
        even.standing(1, 0);
        Due.is("lead(0, 0, 1) even", even.lead(0, 0, 1), 0);
        strengths("even", even, 4, 5);
        // the least sum that wins: 4 at 31 miles, of which 129 each is less, are a force of 1
        KingsBalance faint = Play.kings(4, 31, 0, 0, 4, 31);
        faint.standing(2, 0);
        faint.block(0, 2, 1);
        Play.world(faint, "less 129");
        Due.is("war(0, 0, 1, 1) of faint ones", faint.war(0, 0, 1, 1), 1);
        Due.is("lead(0, 0, 1) of faint ones", faint.lead(0, 0, 1), 0);
        strengths("faint ones", faint, 2, 0, 2);
        KingsBalance weak = Play.kings(9, 0, 1, 40);
        weak.standing(1, 0);
        Play.world(weak, "less 999");
        weak.arm(1, 0);
        Due.is("lead(0, 0, 1) both sums 0", weak.lead(0, 0, 1), 0);
        strengths("both sums 0", weak, 4, 0);
        Due.is("of(1, 2) both sums 0", weak.of(1, 2), 0);
    }

    private static void promise21Spoils() {
        KingsBalance x = Play.kings(90, 0, 60, 0);
        x.standing(1, 0);
        Play.world(x, "take 50");
        x.lead(0, 0, 1);
        // 90 less 30, and 30 more
        strengths("take 50", x, 90, 0);
        x = Play.kings(90, 0, 60, 0);
        x.standing(1, 0);
        Play.world(x, "take 999");
        x.lead(0, 0, 1);
        strengths("take 999", x, 99, 0);
        x = Play.kings(90, 0, 60, 0, 5, 0);
        x.standing(1, 0);
        x.lead(0, 0, 1);
        strengths("no take", x, 60, 0, 5);
        Play.world(x, "take 19");
        x.lead(0, 0, 2);
        // 60 less 2, and 0 more
        strengths("take 19 of 5", x, 58, 0, 0);
    }

    private static void promise21Refusals() {
        KingsBalance x = Play.kings(9, 0, 5, 0, 1, 0);
        x.standing(1, 0);
        Due.is("lead(1, 0, 1)", x.lead(1, 0, 1), NONE);
        Due.is("lead(-1, 0, 1)", x.lead(-1, 0, 1), NONE);
        Due.is("lead(0, 3, 1)", x.lead(0, 3, 1), NONE);
        Due.is("lead(0, 0, -1)", x.lead(0, 0, -1), NONE);
        Due.is("lead(0, 3, 3)", x.lead(0, 3, 3), NONE);
        Due.is("lead(0, 1, 1)", x.lead(0, 1, 1), BAD);
        Due.is("count(6)", x.count(6), 0);
        Due.is("lead(0, 0, 2)", x.lead(0, 0, 2), 1);
        Due.is("lead(0, 0, 2) fallen", x.lead(0, 0, 2), STATE);
        Due.is("lead(0, 2, 0) fallen", x.lead(0, 2, 0), STATE);
        Due.is("lead(0, 2, 2) fallen", x.lead(0, 2, 2), BAD);
        Due.is("count(6)", x.count(6), 1);
        strengths("refused", x, 9, 5, 0);
    }

    private static void promise22() {
        KingsBalance x = Play.kings(20, 0, 12, 3, 9, 5, 30, 10);
        x.standing(1, 0);
        // 0 takes 1 and has 14 left, takes 2 and has 10; 3 takes him
        Due.is("next(0)", x.next(0), 3);
        strengths("next", x, 0, 0, 0, 25);
        Due.is("of(1, 3)", x.of(1, 3), 0);
        Due.is("of(0, 3)", x.of(0, 3), 3);
        Due.is("count(6)", x.count(6), 3);
        Due.is("next(0) quiet", x.next(0), 0);
        Due.is("count(6) quiet", x.count(6), 3);
        Due.is("next(1)", x.next(1), NONE);
        Due.is("next(-1)", x.next(-1), NONE);
        KingsBalance nobody = new KingsBalance();
        nobody.standing(4, 0);
        Due.is("next(0) nobody", nobody.next(0), 0);
    }

    private static void promise23() {
        KingsBalance x = Play.kings(20, 0, 12, 3, 9, 5, 30, 10, 5, 6);
        Due.is("edge(0)", x.edge(0), 4);
        Due.is("edge(3)", x.edge(3), 12);
        Due.is("edge(4)", x.edge(4), 0);
        Due.is("edge(5)", x.edge(5), NONE);
        Due.is("edge(-1)", x.edge(-1), NONE);
        KingsBalance equal = Play.kings(1, 0, 1, 0, 1, 0, 1, 0);
        // one half is no majority, so he turns the pairs of others alone
        Due.is("edge(0) of four equals", equal.edge(0), 3);
        KingsBalance odd = Play.kings(1, 0, 1, 0, 1, 0);
        Due.is("edge(2) of three equals", odd.edge(2), 2);
        KingsBalance none = Play.kings(0, 0, 0, 0);
        Due.is("edge(0) of no strength", none.edge(0), 0);
        KingsBalance one = Play.kings(1, 0, 0, 0);
        Due.is("edge(0) of all the strength", one.edge(0), 2);
        Due.is("edge(1) of none of it", one.edge(1), 0);
        one.standing(1, 0);
        one.lead(0, 0, 1);
        Due.is("edge(0) left alone", one.edge(0), 1);
        Due.is("edge(1) fallen", one.edge(1), STATE);
        KingsBalance seven = Play.kings(1, 0, 1, 0, 1, 0, 1, 0, 1, 0, 1, 0, 1, 0);
        Due.is("edge(6) of seven equals", seven.edge(6), 20);
    }

    private static void promise24() {
        KingsBalance x = Play.kings(20, 0, 12, 3, 9, 5, 30, 10, 5, 6);
        // 4 by 20, 4 by 12, 4 by 9, 12 by 30, 0 by 5
        Due.is("courted()", x.courted(), 2);
        Due.is("courted() of nobody", new KingsBalance().courted(), -5);
        KingsBalance equal = Play.kings(0, 0, 1, 0, 1, 0, 1, 0, 1, 0);
        Due.is("courted() of equals", equal.courted(), 1);
        KingsBalance none = Play.kings(0, 0, 0, 0);
        Due.is("courted() of no strength", none.courted(), 0);
        // 20 turns by 68 are 29, and by 67, cut
        KingsBalance seven = Play.kings(68, 0, 67, 0, 68, 0, 68, 0, 68, 0, 68, 0, 68, 0);
        Due.is("courted() of seven", seven.courted(), 0);
        seven.arm(1, 66);
        Due.is("courted() of seven, one less", seven.courted(), 1);
        // 2 turns by 50 are 4, and by 49 and 48, cut
        KingsBalance cut = Play.kings(50, 0, 49, 0, 48, 0);
        Due.is("edge(0)", cut.edge(0), 2);
        Due.is("courted() cut", cut.courted(), 0);
        cut.arm(2, 40);
        Due.is("courted() 2 by 40", cut.courted(), 2);
        cut.standing(1, 0);
        cut.lead(0, 0, 2);
        Due.is("of(0, 0)", cut.of(0, 0), 30);
        Due.is("courted() without the fallen", cut.courted(), 1);
        cut.lead(0, 1, 0);
        Due.is("courted() left alone", cut.courted(), 1);
        cut.arm(1, 0);
        Due.is("courted() left alone without strength", cut.courted(), 1);
    }

    private static void promise25() {
        KingsBalance x = Play.kings(20, 0, 15, 0);
        x.standing(1, 0);
        Due.is("race(0)", x.race(0), 5);
        strengths("race", x, 20, 20);
        Due.is("race(0) quiet", x.race(0), 0);
        Due.is("race(1)", x.race(1), NONE);
        Due.is("race(-1)", x.race(-1), NONE);
        KingsBalance far = Play.kings(90, 0, 15, 0);
        far.standing(1, 0);
        Due.is("race(0) 30 rounds", far.race(0), 30);
        strengths("30 rounds", far, 90, 45);
        Due.is("race(0) 30 rounds more", far.race(0), 30);
        Due.is("race(0) the rest", far.race(0), 15);
        // he who has 99 has no more, though he is dared by two together
        KingsBalance top = Play.kings(98, 0, 99, 0, 1, 0);
        top.standing(2, 0);
        top.block(0, 2, 1);
        top.worth(2, 0, 0);
        top.worth(2, 1, 0);
        Due.is("race(0) up to 99", top.race(0), 1);
        strengths("99", top, 99, 99, 1);
        Due.is("dares(0, 0, 1)", top.dares(0, 0, 1), 0b110);
        Due.is("race(0) at 99", top.race(0), 0);
        x.lead(0, 0, 1);
        Due.is("of(1, 2) even", x.of(1, 2), 0);
        far.lead(0, 0, 1);
        far.king(95, 0);
        x = Play.kings(5, 0, 4, 0, 3, 0);
        x.standing(1, 0);
        x.lead(0, 0, 2);
        x.arm(0, 5);
        Due.is("race(0) without the fallen", x.race(0), 1);
        strengths("fallen", x, 5, 5, 0);
    }

    private static void promise25Turns() {
        // king 0 is dared by 1 and arms first; then he is no more dared, but 2 is by him
        KingsBalance x = Play.kings(9, 0, 10, 0, 9, 0);
        x.standing(1, 0);
        x.worth(2, 1, 0);
        Due.is("race(0) in turns", x.race(0), 1);
        strengths("in turns", x, 10, 10, 10);
        // king 1 behind him is armed, so that king 2 is dared by two in the same round
        x = Play.kings(10, 0, 9, 0, 10, 0);
        x.standing(1, 0);
        x.worth(1, 2, 0);
        x.worth(2, 0, 0);
        Due.is("race(0) later ones", x.race(0), 1);
        strengths("later ones", x, 10, 10, 10);
    }

    private static void promise26() {
        KingsBalance x = Play.kings(20, 0, 20, 0);
        x.standing(1, 0);
        Due.is("few(0, 0) one less", x.few(0, 0), -1);
        Due.is("few(0, 1) one less", x.few(0, 1), 0);
        x.worth(0, 1, 0);
        // king 1 gains nothing: he has to have less, or king 0 more
        Due.is("few(0, 0) one less of king 1", x.few(0, 0), -1);
        Due.is("few(0, 1) one less of king 1", x.few(0, 1), 1);
        strengths("few changes nothing", x, 20, 20);
        x.arm(0, 15);
        Due.is("few(0, 0) six less of king 1", x.few(0, 0), -6);
        Due.is("few(0, 1) six less of king 1", x.few(0, 1), 1);
        x.arm(1, 45);
        Due.is("few(0, 0) out of reach", x.few(0, 0), 0);
        Due.is("few(0, 1) out of reach", x.few(0, 1), -5);
        x.arm(1, 44);
        Due.is("few(0, 0) 30 less", x.few(0, 0), -30);
        x.arm(0, 0);
        x.arm(1, 10);
        // 0 and 10: less of king 1 never wins, his 0 is the end of it
        Due.is("few(0, 0) more of king 0", x.few(0, 0), 11);
        Due.is("few(0, 1) more of king 0", x.few(0, 1), 0);
        x.arm(1, 29);
        Due.is("few(0, 0) 30 more", x.few(0, 0), 30);
        x.arm(1, 30);
        Due.is("few(0, 0) 31 more", x.few(0, 0), 0);
        Due.is("few(0, 1) 31 more", x.few(0, 1), -5);
        x.arm(0, 99);
        Due.is("few(0, 0) not quiet", x.few(0, 0), STATE);
        Due.is("few(0, 1) not quiet", x.few(0, 1), STATE);
        Due.is("few(0, 2)", x.few(0, 2), NONE);
        Due.is("few(0, -1)", x.few(0, -1), NONE);
        Due.is("few(1, 0)", x.few(1, 0), NONE);
        Due.is("few(-1, 0)", x.few(-1, 0), NONE);
    }

    private static void promise26Order() {
        // king 0 needs 2 more, or king 1 2 less: less is first, though the king is the later one
        KingsBalance x = Play.kings(20, 0, 21, 0, 0, 0);
        x.standing(1, 0);
        x.worth(0, 1, 0);
        x.worth(2, 0, 0);
        x.worth(2, 1, 0);
        Due.is("few(0, 0) less first", x.few(0, 0), -2);
        Due.is("few(0, 1) less first", x.few(0, 1), 1);
        // 3 less is the number of STATE, too; the KING tells them apart
        x.arm(1, 22);
        Due.is("few(0, 0) three less", x.few(0, 0), -3);
        Due.is("few(0, 1) three less", x.few(0, 1), 1);
        // 1 more of king 0 goes ahead of 2 less of king 1, though less is first where both are of one size
        KingsBalance small = Play.kings(20, 0, 20, 0);
        small.standing(1, 0);
        Play.world(small, "cost 10 s<21&o>18");
        Due.is("few(0, 0) one more", small.few(0, 0), 1);
        Due.is("few(0, 1) one more", small.few(0, 1), 0);
        Play.world(small, "cost 10 o>18");
        Due.is("few(0, 0) two less", small.few(0, 0), -2);
        Due.is("few(0, 1) two less", small.few(0, 1), 0);
        // of 99 there is no more, and of 0 no less
        KingsBalance top = Play.kings(99, 0, 99, 0);
        top.standing(1, 0);
        top.worth(1, 0, 0);
        Due.is("few(0, 0) at 99", top.few(0, 0), -1);
        Due.is("few(0, 1) at 99", top.few(0, 1), 0);
        KingsBalance low = Play.kings(0, 0, 0, 0, 0, 0);
        low.standing(1, 0);
        Due.is("few(0, 0) at 0", low.few(0, 0), 1);
        Due.is("few(0, 1) at 0", low.few(0, 1), 0);
        low.arm(2, 1);
        low.lead(0, 2, 0);
        low.arm(2, 0);
        Due.is("few(0, 0) not of the fallen", low.few(0, 0), 1);
        Due.is("few(0, 1) not of the fallen", low.few(0, 1), 1);
        // nobody can have 100
        KingsBalance dear = Play.kings(99, 0, 50, 0);
        dear.standing(1, 0);
        Play.world(dear, "cost 99 s<100");
        Due.is("few(0, 0) above 99", dear.few(0, 0), 0);
        Due.is("few of nobody", nobody().few(0, 0), 0);
        Due.is("few of nobody, the king", nobody().few(0, 1), -5);
    }

    private static KingsBalance nobody() {
        KingsBalance x = new KingsBalance();
        x.standing(1, 0);
        return x;
    }

    private static void promise27() {
        KingsBalance x = Play.kings(20, 0, 12, 3, 9, 5, 30, 10, 5, 6);
        x.standing(1, 0);
        Due.is("guarded(0)", x.guarded(0), 0b01000);
        x.worth(4, 0, 0);
        x.worth(4, 1, 0);
        x.worth(4, 2, 0);
        x.worth(4, 3, 0);
        Due.is("guarded(0) what nobody wants", x.guarded(0), 0b11000);
        x.lead(0, 3, 4);
        x.worth(0, 3, 0);
        Due.is("guarded(0) with king 0", x.guarded(0), 0b01001);
        x.worth(0, 3, 10);
        Due.is("guarded(0) alive", x.guarded(0), 0b01000);
        Due.is("guarded(1)", x.guarded(1), NONE);
        Due.is("guarded(-1)", x.guarded(-1), NONE);
        Due.is("guarded(0) of nobody", nobody().guarded(0), 0);
    }

    private static void promise28() {
        KingsBalance x = Play.kings(20, 0, 12, 3, 9, 5, 30, 10, 5, 6);
        x.standing(1, 0);
        // ten pairs dare; with 1 gone, and king 0 at 32, there are 0 of 2, 3, 4; 3 of 2, 4; 2 of 4
        Due.is("marry(0, 0, 1, 0)", x.marry(0, 0, 1, 0), -4);
        Due.is("marry(0, 0, 1, 1)", x.marry(0, 0, 1, 1), 0b01000);
        // as 17 king 1 dares 2 and 4's land is gone
        Due.is("marry(0, 1, 4, 0)", x.marry(0, 1, 4, 0), -4);
        Due.is("marry(0, 4, 1, 0)", x.marry(0, 4, 1, 0), -4);
        Due.is("marry(0, 4, 1, 1)", x.marry(0, 4, 1, 1), 0);
        strengths("marry changes nothing", x, 20, 12, 9, 30, 5);
        Due.is("of(1, 2)", x.of(1, 2), 0);
        Due.is("count(1)", x.count(1), 5);
        // no more than 99 come together
        KingsBalance top = Play.kings(60, 0, 60, 0, 99, 0);
        top.standing(1, 0);
        Due.is("dares(0, 2, 0)", top.dares(0, 2, 0), 0b011);
        Due.is("marry(0, 0, 1, 0) up to 99", top.marry(0, 0, 1, 0), -2);
        Due.is("marry(0, 0, 1, 1) up to 99", top.marry(0, 0, 1, 1), 0);
        top.arm(2, 98);
        Due.is("marry(0, 0, 1, 0) above 98", top.marry(0, 0, 1, 0), -1);
        Due.is("marry(0, 0, 1, 1) above 98", top.marry(0, 0, 1, 1), 0b100);
    }

    private static void promise28Bars() {
        // a and b are not told, though a is dared by more when b no more comes to him
        KingsBalance x = Play.kings(10, 0, 5, 0, 14, 0, 3, 0);
        x.standing(2, 0);
        x.block(0, 3, 0);
        x.block(0, 1, 0);
        // 18 in block 0; 14 alone. With 3 wed to 2 there are 15 and 17
        Due.is("dares(0, 2, 0)", x.dares(0, 2, 0), 0);
        Due.is("dares(0, 2, 1)", x.dares(0, 2, 1), 0b1011);
        Due.is("marry(0, 2, 3, 1)", x.marry(0, 2, 3, 1), 0b0011);
        // now 0, 1, 3 dare 2, 0 dares 1 and 3, 1 dares 3; then 2 dares 0 and 1, 0 dares 1
        Due.is("marry(0, 2, 3, 0)", x.marry(0, 2, 3, 0), -3);
        // a himself is dared by more, and is not told: 1 with 15 by 2 with 14 no more, so arm
        KingsBalance y = Play.kings(4, 0, 3, 0, 5, 0);
        y.standing(2, 0);
        y.block(0, 2, 1);
        y.worth(1, 0, 0);
        // 8 are block 1, 4 king 0; with 2 wed to 0 he has 9
        Due.is("dares(0, 1, 1)", y.dares(0, 1, 1), 0b100);
        y.worth(1, 0, 10);
        Due.is("marry(0, 0, 2, 1) dared by as many", y.marry(0, 0, 2, 1), 0);
        y.worth(1, 2, 0);
        Due.is("marry(0, 0, 2, 1) dared by more", y.marry(0, 0, 2, 1), 0b010);
    }

    private static void promise28League() {
        // wed, he has 20 of 40, and is not feared; the STRENGTH of b is not there twice
        KingsBalance x = Play.kings(10, 0, 10, 0, 9, 0, 11, 0);
        x.standing(4, 0);
        x.block(0, 1, 0);
        // now 0 and 1 dare 2 and 3, and 3 dares 2; then 0 dares both, and 3 dares 2
        Due.is("marry(0, 0, 1, 0) in a league", x.marry(0, 0, 1, 0), -2);
        Due.is("marry(0, 0, 1, 1) in a league", x.marry(0, 0, 1, 1), 0);
    }

    private static void promise28Refusals() {
        KingsBalance x = Play.kings(9, 0, 5, 0, 1, 0);
        x.standing(1, 0);
        Due.is("marry(1, 0, 1, 0)", x.marry(1, 0, 1, 0), -1000);
        Due.is("marry(-1, 0, 1, 0)", x.marry(-1, 0, 1, 0), -1000);
        Due.is("marry(0, 3, 1, 0)", x.marry(0, 3, 1, 0), -1000);
        Due.is("marry(0, 0, 3, 0)", x.marry(0, 0, 3, 0), -1000);
        Due.is("marry(0, 0, 0, 2)", x.marry(0, 0, 0, 2), -1000);
        Due.is("marry(0, 0, 1, -1)", x.marry(0, 0, 1, -1), -1000);
        Due.is("marry(0, 1, 1, 0)", x.marry(0, 1, 1, 0), -1001);
        x.lead(0, 0, 2);
        Due.is("marry(0, 0, 2, 0)", x.marry(0, 0, 2, 0), -1002);
        Due.is("marry(0, 2, 0, 1)", x.marry(0, 2, 0, 1), -1002);
        Due.is("marry(0, 2, 2, 1)", x.marry(0, 2, 2, 1), -1001);
        Due.is("marry(0, 2, 3, 1)", x.marry(0, 2, 3, 1), -1000);
    }
}
