/** Promises 21 to 28: each sentence that names a boundary, just inside it, just outside, far off. */
public final class WarsEdgesTest {
    private static final int NONE = KingsBalance.NONE, BAD = KingsBalance.BAD, STATE = KingsBalance.STATE;

    public static void main(String[] args) {
        promise21Halves();
        promise21Losses();
        promise21Takes();
        promise21Falls();
        promise21Refusals();
        promise22();
        promise22Bounds();
        promise23();
        promise23Refusals();
        promise24();
        promise24Cuts();
        promise25Rounds();
        promise25Most();
        promise25Turns();
        promise26Changes();
        promise26Order();
        promise26Stays();
        promise26Refusals();
        promise27();
        promise28Most();
        promise28Bars();
        promise28Refusals();
        Due.end("WarsEdgesTest");
    }

    private static KingsBalance seven(int strength, int... kinds) {
        KingsBalance x = new KingsBalance();
        for (int k = 0; k < 7; k++) x.king(strength, 0);
        for (int kind : kinds) x.standing(kind, 0);
        return x;
    }

    /** KINGS at one PLACE, and a STANDING ALONE, number 0. */
    private static KingsBalance alone(int... strengths) {
        KingsBalance x = new KingsBalance();
        for (int strength : strengths) x.king(strength, 0);
        x.standing(1, 0);
        return x;
    }

    private static void strengths(String when, KingsBalance x, int... due) {
        for (int k = 0; k < due.length; k++) Due.is(when + ": of(" + k + ", 0)", x.of(k, 0), due[k]);
    }

    private static void promise21Halves() {
        Due.says(21, "each KING of the side that lost has half of his STRENGTH (cut)");
        int[][] due = {{0, 0}, {1, 0}, {2, 1}, {3, 1}, {49, 24}, {50, 25}, {98, 49}, {99, 49}};
        for (int[] d : due) {
            KingsBalance x = alone(d[0], 99);
            Due.is("lead(0, 0, 1) with " + d[0], x.lead(0, 0, 1), 0);
            Due.is("of(0, 0)", x.of(0, 0), d[1]);
            Due.is("of(0, 2): he who attacked does not FALL", x.of(0, 2), 0);
            // of the side of b who falls, too, but b himself has nothing
            KingsBalance y = Play.kings(99, 0, 1, 0, d[0], 0, 99, 0);
            y.standing(2, 0);
            y.block(0, 2, 1);
            y.block(0, 3, 0);
            Due.is("lead(0, 0, 1) with " + d[0] + " beside b", y.lead(0, 0, 1), 1);
            Due.is("of(2, 0)", y.of(2, 0), d[1]);
            Due.is("of(2, 2)", y.of(2, 2), 0);
            Due.is("of(2, 3)", y.of(2, 3), 2);
            Due.is("of(1, 0)", y.of(1, 0), 0);
            Due.is("of(1, 2)", y.of(1, 2), 1);
        }
    }

    private static void promise21Losses() {
        Due.says(21, "each of the other side loses his STRENGTH times the lost sum by twice the won sum (cut; nothing if the won sum is 0)");
        int[][] due = {{99, 98, 50}, {99, 0, 99}, {99, 1, 99}, {99, 2, 98}, {10, 1, 10}, {10, 2, 9}, {2, 1, 2}, {1, 0, 1}, {50, 49, 26}};
        for (int[] d : due) {
            KingsBalance x = alone(d[0], d[1]);
            Due.is("lead(0, 0, 1) of " + d[0] + " and " + d[1], x.lead(0, 0, 1), 1);
            strengths("won", x, d[2], 0);
            KingsBalance y = alone(d[1], d[0]);
            Due.is("lead(0, 0, 1) of " + d[1] + " and " + d[0], y.lead(0, 0, 1), 0);
            strengths("lost", y, d[1] / 2, d[2]);
        }
        for (int n : new int[] {1, 2, 3, 98, 99}) {
            KingsBalance x = alone(n, n);
            Due.is("lead(0, 0, 1) of " + n + " and " + n, x.lead(0, 0, 1), 0);
            strengths("even", x, n / 2, n - n / 2);
        }
        KingsBalance none = alone(0, 0);
        Due.is("lead(0, 0, 1) of 0 and 0", none.lead(0, 0, 1), 0);
        strengths("won sum 0", none, 0, 0);
        Due.is("count(6)", none.count(6), 1);
        Due.is("count(1)", none.count(1), 2);
        // no FORCE at all, though there are STRENGTHS: the sum that won is 0, and he beside b loses nothing
        KingsBalance far = Play.kings(30, 0, 0, 40, 25, 0);
        far.standing(2, 0);
        far.block(0, 2, 1);
        Play.world(far, "less 999");
        Due.is("war(0, 0, 1, 0)", far.war(0, 0, 1, 0), 0);
        Due.is("war(0, 0, 1, 1)", far.war(0, 0, 1, 1), 0);
        Due.is("lead(0, 0, 1) of no FORCE", far.lead(0, 0, 1), 0);
        strengths("no FORCE", far, 15, 0, 25);
        // the least sum that wins: 4 at 31 miles, of which 129 each is less, are a FORCE of 1
        KingsBalance faint = Play.kings(9, 0, 0, 0, 4, 31);
        faint.standing(2, 0);
        faint.block(0, 2, 1);
        faint.arm(0, 0);
        Play.world(faint, "less 129");
        Due.is("war(0, 0, 1, 1) of 1", faint.war(0, 0, 1, 1), 1);
        Due.is("lead(0, 0, 1) of 0 and 1", faint.lead(0, 0, 1), 0);
        strengths("0 and 1", faint, 0, 0, 4);
        faint.king(4, 31);
        faint.block(0, 3, 0);
        Due.is("war(0, 0, 1, 0) of 1", faint.war(0, 0, 1, 0), 1);
        Due.is("lead(0, 0, 1) of 1 and 1", faint.lead(0, 0, 1), 0);
        strengths("1 and 1", faint, 0, 0, 2, 2);
        // the dearest war: all seven of 99, six of them on one side; 99 * 99000 by 1188000 is 8
        KingsBalance full = seven(99, 5);
        Due.is("lead(0, 6, 0)", full.lead(0, 6, 0), 0);
        strengths("six against one", full, 91, 91, 91, 91, 91, 91, 49);
        KingsBalance six = seven(99, 2);
        for (int k = 0; k < 6; k++) six.block(0, k, 0);
        Due.is("lead(0, 5, 6)", six.lead(0, 5, 6), 1);
        strengths("six against one", six, 91, 91, 91, 91, 91, 91, 0);
        Due.is("of(6, 3)", six.of(6, 3), 5);
        // he who comes with no FORCE loses by his STRENGTH, not by his FORCE
        KingsBalance late = Play.kings(20, 0, 10, 0, 12, 40);
        late.standing(2, 0);
        late.block(0, 2, 0);
        Play.world(late, "less 300");
        Due.is("lead(0, 0, 1)", late.lead(0, 0, 1), 1);
        strengths("late", late, 15, 0, 9);
    }

    private static void promise21Takes() {
        Due.says(21, "gains take times b's STRENGTH (as it was ahead of the war) by 100 (cut; he has 99 at most)");
        // take, a's and b's STRENGTH, a's behind it: his losses are cut first
        int[][] due = {{0, 90, 60, 60}, {1, 90, 60, 60}, {2, 90, 60, 61}, {50, 90, 60, 90}, {64, 90, 60, 98}, {65, 90, 60, 99},
            {66, 90, 60, 99}, {67, 90, 60, 99}, {100, 90, 60, 99}, {999, 90, 60, 99}, {999, 99, 98, 99}, {33, 9, 3, 8}, {34, 9, 3, 9},
            {99, 9, 1, 9}, {100, 9, 1, 10}, {199, 9, 1, 10}, {200, 9, 1, 11}, {999, 9, 0, 9}, {999, 2, 1, 11}};
        for (int[] d : due) {
            KingsBalance x = alone(d[1], d[2]);
            Play.world(x, "take " + d[0]);
            Due.is("lead(0, 0, 1) by take " + d[0] + " of " + d[1] + " and " + d[2], x.lead(0, 0, 1), 1);
            strengths("taken", x, d[3], 0);
        }
        KingsBalance x = Play.kings(50, 0, 20, 0, 30, 0, 20, 0);
        x.standing(2, 0);
        x.block(0, 2, 0);
        x.block(0, 3, 1);
        Play.world(x, "take 100");
        // 50 less 50 * 40 / 160, and 20 of b alone; those beside both take nothing
        Due.is("lead(0, 0, 1)", x.lead(0, 0, 1), 1);
        strengths("a alone takes", x, 58, 0, 23, 10);
        KingsBalance lost = alone(10, 40);
        Play.world(lost, "take 100");
        Due.is("lead(0, 0, 1)", lost.lead(0, 0, 1), 0);
        strengths("b takes nothing", lost, 5, 35);
    }

    private static void promise21Falls() {
        Due.says(21, "If a's side won, b FALLS: his LAND is a's");
        KingsBalance x = Play.kings(1, 0, 9, 0, 9, 0);
        x.standing(2, 0);
        x.block(0, 2, 0);
        Due.is("lead(0, 0, 1): with 2's help", x.lead(0, 0, 1), 1);
        Due.is("of(1, 3) is a's, not 2's", x.of(1, 3), 0);
        Due.is("of(1, 2)", x.of(1, 2), 1);
        Due.is("of(0, 3)", x.of(0, 3), 0);
        Due.is("of(2, 3)", x.of(2, 3), 2);
        KingsBalance even = alone(9, 9);
        Due.is("lead(0, 0, 1): even", even.lead(0, 0, 1), 0);
        Due.is("of(1, 2)", even.of(1, 2), 0);
        Due.is("of(1, 3)", even.of(1, 3), 1);
        KingsBalance last = seven(5, 1);
        last.arm(6, 99);
        for (int k = 0; k < 6; k++) {
            Due.is("lead(0, 6, " + k + ")", last.lead(0, 6, k), 1);
            Due.is("of(" + k + ", 3)", last.of(k, 3), 6);
            Due.is("count(1)", last.count(1), 6 - k);
            Due.is("count(6)", last.count(6), k + 1);
        }
        Due.is("count(0)", last.count(0), 7);
    }

    private static void promise21Refusals() {
        Due.says(21, "A war of a on b is led: 1 if a's side won, 0. NONE; BAD; STATE: one is FALLEN.");
        KingsBalance x = seven(5, 0, 1, 2, 3, 4, 5, 6, 1);
        x.arm(6, 50);
        Due.is("lead(7, 6, 2)", x.lead(7, 6, 2), 1);
        for (int s : Bounds.outside(0, 7)) Due.is("lead(" + s + ", 6, 0)", x.lead(s, 6, 0), NONE);
        for (int k : Bounds.outside(0, 6)) {
            Due.is("lead(1, " + k + ", 0)", x.lead(1, k, 0), NONE);
            Due.is("lead(1, 6, " + k + ")", x.lead(1, 6, k), NONE);
            Due.is("lead(1, " + k + ", " + k + ")", x.lead(1, k, k), NONE);
            Due.is("lead(1, 2, " + k + ")", x.lead(1, 2, k), NONE);
        }
        for (int k = 0; k < 7; k++) {
            Due.is("lead(1, " + k + ", " + k + ")", x.lead(1, k, k), BAD);
            if (k != 2) Due.is("lead(1, 2, " + k + ")", x.lead(1, 2, k), STATE);
            if (k != 2) Due.is("lead(1, " + k + ", 2)", x.lead(1, k, 2), STATE);
        }
        Due.is("lead(8, 2, 2)", x.lead(8, 2, 2), NONE);
        Due.is("count(6)", x.count(6), 1);
        strengths("refused", x, 5, 5, 0, 5, 5, 5, 48);
    }

    private static void promise22() {
        Due.says(22, "FIRST is led, again and again, till it is QUIET, 20 times at most");
        KingsBalance six = alone(0, 0, 0, 0, 0, 0, 99);
        Due.is("next(0): one war for each of the others", six.next(0), 6);
        strengths("behind six wars", six, 0, 0, 0, 0, 0, 0, 99);
        Due.is("count(1)", six.count(1), 1);
        Due.is("count(6)", six.count(6), 6);
        Due.is("next(0) again", six.next(0), 0);
        Due.is("count(6) again", six.count(6), 6);
        KingsBalance none = new KingsBalance();
        none.standing(1, 0);
        Due.is("next(0) of nobody", none.next(0), 0);
        none.king(99, 0);
        Due.is("next(0) of one", none.next(0), 0);
        none.king(99, 0);
        Due.is("next(0) of two as strong", none.next(0), 0);
        none.arm(1, 98);
        Due.is("next(0) of two", none.next(0), 1);
        Due.is("of(1, 3)", none.of(1, 3), 0);
        Due.is("count(6)", none.count(6), 1);
        // the first one is led by what there is behind each war: 2 takes 0, and is too weak for 1 then
        KingsBalance x = alone(9, 9, 10);
        Due.is("next(0): 2 takes 0, and 1 takes 2", x.next(0), 2);
        strengths("behind both", x, 0, 6, 0);
        Due.is("of(0, 3)", x.of(0, 3), 2);
        Due.is("of(2, 3)", x.of(2, 3), 1);
    }

    private static void promise22Bounds() {
        Due.says(22, "NEXT: how many wars were led. NONE.");
        KingsBalance x = seven(5, 0, 1, 2, 3, 4, 5, 6, 1);
        for (int s : Bounds.outside(0, 7)) Due.is("next(" + s + ")", x.next(s), NONE);
        Due.is("next(7) QUIET", x.next(7), 0);
        x.arm(6, 6);
        Due.is("next(7): 6 takes 0, and all others have 5 against 4", x.next(7), 6);
        Due.is("count(6)", x.count(6), 6);
        for (int s : Bounds.outside(0, -1)) Due.is("next(" + s + ") of a new object", new KingsBalance().next(s), NONE);
    }

    private static void promise23() {
        Due.says(23, "those whose STRENGTHS together are no more than half of all, and with his more than half");
        KingsBalance x = alone(3, 2, 1);
        // of 6: for 0 the sets {1}, {2} and {1, 2}, which has just half; with {} he has just half
        Due.is("edge(0)", x.edge(0), 3);
        // for each of the others {0} alone
        Due.is("edge(1)", x.edge(1), 1);
        Due.is("edge(2)", x.edge(2), 1);
        x.arm(0, 4);
        // of 7: all four sets, as 4 is more than half, and 3 no more
        Due.is("edge(0) of one more", x.edge(0), 4);
        Due.is("edge(1) of one more", x.edge(1), 0);
        x.arm(0, 2);
        // of 5: {1} and {2}; {1, 2} has 3, more than half
        Due.is("edge(0) of one less", x.edge(0), 2);
        Due.is("edge(2) of one less", x.edge(2), 2);
        KingsBalance one = alone(1);
        Due.is("edge(0) of one", one.edge(0), 1);
        one.arm(0, 0);
        Due.is("edge(0) of one without STRENGTH", one.edge(0), 0);
        one.arm(0, 99);
        Due.is("edge(0) of one with 99", one.edge(0), 1);
        // 20 of 64: sets of three of six; of seven at 99 all is 693, half 346.5
        KingsBalance full = seven(99);
        for (int k = 0; k < 7; k++) Due.is("edge(" + k + ") of seven", full.edge(k), 20);
        for (int k = 0; k < 6; k++) full.arm(k, 0);
        Due.is("edge(6): all sets", full.edge(6), 64);
        Due.is("edge(0)", full.edge(0), 0);
        full.arm(0, 99);
        // {0} and what has nothing besides: 32 sets
        Due.is("edge(6) of two as strong", full.edge(6), 32);
        full.arm(0, 98);
        Due.is("edge(6) of one more than all others", full.edge(6), 64);
        full.arm(1, 1);
        Due.is("edge(6) of half: all sets but those of no STRENGTH", full.edge(6), 48);
        Due.is("edge(1) of 1 of 198", full.edge(1), 16);
        KingsBalance none = seven(0);
        for (int k = 0; k < 7; k++) Due.is("edge(" + k + ") without STRENGTHS", none.edge(k), 0);
    }

    private static void promise23Refusals() {
        Due.says(23, "TURNS. NONE; STATE: FALLEN.");
        KingsBalance x = seven(5, 1);
        for (int k : Bounds.outside(0, 6)) Due.is("edge(" + k + ")", x.edge(k), NONE);
        x.arm(6, 9);
        x.lead(0, 6, 0);
        Due.is("edge(0)", x.edge(0), STATE);
        x.arm(6, 5);
        Due.is("of all sets of the other KINGS that are alive: edge(6)", x.edge(6), 10);
        for (int k : Bounds.outside(0, -1)) Due.is("edge(" + k + ") of none", new KingsBalance().edge(k), NONE);
    }

    private static void promise24() {
        Due.says(24, "COURTED; -5: nobody is alive.");
        KingsBalance x = new KingsBalance();
        Due.is("courted() of nobody", x.courted(), -5);
        x.king(0, 0);
        Due.is("courted() of one without STRENGTH", x.courted(), 0);
        x.arm(0, 99);
        Due.is("courted() of one", x.courted(), 0);
        Due.says(24, "of several the least");
        for (int strength : new int[] {0, 1, 50, 99}) Due.is("courted() of seven at " + strength, seven(strength).courted(), 0);
        KingsBalance fallen = seven(5, 1);
        fallen.arm(6, 9);
        fallen.lead(0, 6, 0);
        fallen.arm(6, 5);
        Due.is("courted() of those alive", fallen.courted(), 1);
        for (int k = 1; k < 7; k++) fallen.arm(k, 0);
        Due.is("courted() of those alive, all by 0", fallen.courted(), 1);
        Due.says(24, "TURNS times 100 by STRENGTH (cut; STRENGTH 0: 0)");
        KingsBalance none = alone(0, 0, 1);
        Due.is("courted() of one with STRENGTH", none.courted(), 2);
        none.arm(0, 1);
        none.arm(2, 0);
        Due.is("courted() of the other one", none.courted(), 0);
    }

    private static void promise24Cuts() {
        Due.says(24, "the KING alive with the most TURNS by his STRENGTH: TURNS times 100 by STRENGTH (cut");
        // both have 2 TURNS: 200 by 67 is 2, by 66 is 3, by 99 is 2
        KingsBalance x = alone(99, 67, 67);
        Due.is("edge(0)", x.edge(0), 2);
        Due.is("edge(2)", x.edge(2), 2);
        Due.is("courted() of 2, 2, 2", x.courted(), 0);
        x.arm(1, 66);
        Due.is("courted() of 2, 3, 2", x.courted(), 1);
        x.arm(2, 66);
        Due.is("courted() of 2, 3, 3", x.courted(), 1);
        x.arm(0, 66);
        Due.is("courted() of 3, 3, 3", x.courted(), 0);
        // 2 TURNS by 50 are 4, as by 49, and by 48, cut
        KingsBalance z = alone(50, 49, 48);
        Due.is("courted() of 4, 4, 4", z.courted(), 0);
        z.arm(2, 40);
        Due.is("courted() of 4, 4, 5", z.courted(), 2);
        // 64 TURNS of 64 by 99 are 64; by 1 with one TURN 100
        KingsBalance y = seven(0);
        y.arm(6, 99);
        Due.is("courted() of 64", y.courted(), 6);
        y.arm(3, 1);
        Due.is("edge(3) of 1 of 100", y.edge(3), 0);
        Due.is("courted() of 0 and 64", y.courted(), 6);
        y.arm(0, 99);
        // {0} or {6} and 1 are more than half of 199
        Due.is("edge(3) of 1 of 199", y.edge(3), 32);
        Due.is("courted() of 32 * 100 by 1", y.courted(), 3);
    }

    private static void promise25Rounds() {
        Due.says(25, "till a round changes nothing, 30 rounds at most: how many rounds changed something");
        for (int more : new int[] {0, 1, 2, 28, 29, 30, 31, 32, 49}) {
            KingsBalance x = alone(50 + more, 50);
            Due.is("race(0) of " + more + " more", x.race(0), Math.min(more, 30));
            strengths("of " + more + " more", x, 50 + more, 50 + Math.min(more, 30));
            Due.is("race(0) again", x.race(0), Math.max(0, Math.min(30, more - 30)));
        }
        KingsBalance none = new KingsBalance();
        none.standing(1, 0);
        Due.is("race(0) of nobody", none.race(0), 0);
        none.king(0, 0);
        Due.is("race(0) of one", none.race(0), 0);
        Due.says(25, "ARMING (STRENGTHS stay so). NONE.");
        KingsBalance full = seven(5, 0, 1, 2, 3, 4, 5, 6, 1);
        for (int s : Bounds.outside(0, 7)) Due.is("race(" + s + ")", full.race(s), NONE);
        Due.is("race(7)", full.race(7), 0);
        full.arm(6, 7);
        Due.is("race(7) of seven", full.race(7), 2);
        strengths("seven", full, 7, 7, 7, 7, 7, 7, 7);
        for (int s : Bounds.outside(0, -1)) Due.is("race(" + s + ") of a new object", new KingsBalance().race(s), NONE);
    }

    /** 0 is DARED by 1 and 2 together, who are one BLOCK and whom he does not want. */
    private static KingsBalance pressed(int strength) {
        KingsBalance x = Play.kings(strength, 0, 99, 0, 99, 0);
        x.standing(2, 0);
        x.block(0, 2, 1);
        x.worth(1, 0, 0);
        x.worth(2, 0, 0);
        return x;
    }

    private static void promise25Most() {
        Due.says(25, "one that is DARED by somebody has 1 STRENGTH more (99 at most)");
        int[][] due = {{99, 0, 99}, {98, 1, 99}, {97, 2, 99}, {70, 29, 99}, {69, 30, 99}, {68, 30, 98}, {0, 30, 30}};
        for (int[] d : due) {
            KingsBalance x = pressed(d[0]);
            Due.is("race(0) of " + d[0], x.race(0), d[1]);
            strengths("of " + d[0], x, d[2], 99, 99);
            Due.is("dares(0, 0, 1): he is DARED all the same", x.dares(0, 0, 1), 0b110);
        }
        // a round that changes something: he at 99 no more, another one still
        KingsBalance two = Play.kings(99, 0, 99, 0, 99, 0, 96, 0);
        two.standing(2, 0);
        two.block(0, 2, 1);
        two.worth(1, 0, 0);
        two.worth(2, 0, 0);
        Due.is("race(0) of 99 and 96", two.race(0), 3);
        strengths("of 99 and 96", two, 99, 99, 99, 99);
    }

    private static void promise25Turns() {
        Due.says(25, "in turns KINGS that are alive, by numbers");
        // 0 wants 1, 1 wants 2: 1 arms ahead of 2, so that 2 is DARED a round longer
        KingsBalance x = alone(10, 9, 9);
        x.worth(0, 1, 0);
        x.worth(0, 2, 0);
        x.worth(2, 0, 0);
        x.worth(1, 2, 0);
        Due.is("race(0)", x.race(0), 1);
        strengths("by what stands then", x, 10, 10, 10);
        // the other way round 2 is not DARED any more when 1 has armed
        KingsBalance y = alone(9, 9, 10);
        y.worth(2, 1, 0);
        y.worth(2, 0, 0);
        y.worth(0, 2, 0);
        y.worth(1, 0, 0);
        Due.is("race(0)", y.race(0), 2);
        strengths("a round later", y, 10, 10, 10);
        // FALLEN ones do not arm
        KingsBalance fallen = alone(5, 4, 1);
        fallen.lead(0, 0, 2);
        fallen.arm(0, 6);
        Due.is("race(0)", fallen.race(0), 2);
        strengths("not the FALLEN", fallen, 6, 6, 0);
    }

    private static void few(KingsBalance x, String when, int change, int king) {
        Due.is("few(0, 0) " + when, x.few(0, 0), change);
        Due.is("few(0, 1) " + when, x.few(0, 1), king);
    }

    /** 0 wants the LAND of 1, and nobody anything else. */
    private static KingsBalance greedy(int strength, int other) {
        KingsBalance x = alone(strength, other, 0);
        for (int land = 0; land < 3; land++) {
            for (int k = 0; k < 3; k++) if (land != 1 || k != 0) x.worth(land, k, 0);
        }
        return x;
    }

    private static void promise26Changes() {
        Due.says(26, "the least change (1 .. 30, either way, less first)");
        // he needs one more than the other one has, or that one has less: less is first
        for (int n = 1; n <= 31; n++) {
            KingsBalance x = greedy(40, 40 + n - 1);
            few(x, "of " + n + " less", n <= 30 ? -n : 0, n <= 30 ? 1 : -5);
        }
        // of 1 there is no less that is enough, as 0 has nothing
        for (int n = 1; n <= 31; n++) {
            KingsBalance x = greedy(0, n - 1);
            few(x, "of " + n + " more", n <= 30 ? n : 0, n <= 30 ? 0 : -5);
        }
        KingsBalance x = greedy(40, 40);
        for (int i = 0; i < 3; i++) few(x, "time " + i, -1, 1);
        strengths("behind few", x, 40, 40, 0);
    }

    private static void promise26Order() {
        Due.says(26, "of several KINGS the least");
        KingsBalance x = alone(10, 10, 10, 10, 10, 10, 10);
        few(x, "of seven as strong", -1, 0);
        KingsBalance low = alone(0, 0, 0, 0, 0, 0, 0);
        few(low, "of seven without STRENGTH", 1, 0);
        low.worth(1, 0, 0);
        for (int land = 2; land < 7; land++) low.worth(land, 0, 0);
        few(low, "of six, as 0 wants nothing", 1, 1);
        Due.says(26, "the least change (1 .. 30, either way, less first)");
        // 2 less of 1 or 2 more of 0; then 1 more of 0, who is ahead of 2 less of 1
        KingsBalance y = greedy(20, 21);
        few(y, "of 2 either way", -2, 1);
        Play.world(y, "cost 10 o<21");
        few(y, "of 2 more, as less is too dear", 2, 0);
        y.arm(1, 20);
        few(y, "of 1 more, as 20 is too dear", 0, -5);
        Play.world(y, "cost 10 o<20");
        few(y, "of 1 more", 1, 0);
        // 1 more of a later KING is ahead of 2 less of an earlier one
        KingsBalance z = alone(20, 20, 20);
        Play.world(z, "cost 99 o=19;cost 99 !k=2");
        few(z, "of 1 more of 2", 1, 2);
    }

    private static void promise26Stays() {
        Due.says(26, "of the STRENGTH of one KING that is alive (0 .. 99 stays)");
        few(alone(99, 99), "of 99: less only", -1, 0);
        few(alone(0, 0), "of 0: more only", 1, 0);
        KingsBalance top = alone(99, 99);
        Play.world(top, "cost 99 o<99");
        few(top, "of 100, which nobody can have", 0, -5);
        KingsBalance low = alone(1, 1);
        Play.world(low, "cost 99 s>1;cost 99 o=0");
        few(low, "of less than 0, which nobody can have", 0, -5);
        Play.world(low, "cost 99 s>1");
        few(low, "of 0, which he can have", -1, 0);
        // 99 itself, from 69 on, is the last of 30
        KingsBalance last = greedy(69, 98);
        Play.world(last, "cost 99 o<98");
        few(last, "up to 99", 30, 0);
        last.arm(0, 68);
        few(last, "31 up to 99", 0, -5);
        KingsBalance first = greedy(1, 30);
        Play.world(first, "cost 99 s>1");
        few(first, "down to 0", -30, 1);
        first.arm(1, 31);
        few(first, "31 down to 0", 0, -5);
        // the FALLEN have no STRENGTH that could be another one
        KingsBalance fallen = alone(0, 0, 9);
        fallen.lead(0, 2, 0);
        fallen.arm(2, 0);
        few(fallen, "not of the FALLEN", 1, 1);
        fallen.arm(1, 9);
        fallen.lead(0, 1, 2);
        few(fallen, "of the last one alive", 0, -5);
    }

    private static void promise26Refusals() {
        Due.says(26, "FEW: what 0 the change (0: none such), 1 the KING (-5). NONE; STATE: it is not QUIET.");
        KingsBalance x = seven(5, 0, 1, 2, 3, 4, 5, 6, 1);
        for (int s : Bounds.outside(0, 7)) {
            Due.is("few(" + s + ", 0)", x.few(s, 0), NONE);
            Due.is("few(" + s + ", 1)", x.few(s, 1), NONE);
        }
        for (int what : Bounds.outside(0, 1)) Due.is("few(1, " + what + ")", x.few(1, what), NONE);
        Due.is("few(7, 0)", x.few(7, 0), -1);
        x.arm(6, 6);
        Due.is("few(7, 0)", x.few(7, 0), STATE);
        Due.is("few(7, 1)", x.few(7, 1), STATE);
        Due.is("few(7, 2)", x.few(7, 2), NONE);
        Due.is("few(8, 0)", x.few(8, 0), NONE);
        KingsBalance none = new KingsBalance();
        none.standing(1, 0);
        few(none, "of nobody", 0, -5);
        none.king(50, 0);
        few(none, "of one", 0, -5);
    }

    private static void promise27() {
        Due.says(27, "GUARDED, as bits of KINGS that are alive. NONE.");
        KingsBalance x = seven(5, 0, 1, 2, 3, 4, 5, 6, 1);
        Due.is("guarded(7) of seven", x.guarded(7), 0b1111111);
        x.arm(6, 6);
        Due.is("guarded(7) of seven, one DARES all", x.guarded(7), 0b1000000);
        for (int s : Bounds.outside(0, 7)) Due.is("guarded(" + s + ")", x.guarded(s), NONE);
        x.lead(7, 6, 3);
        x.arm(6, 5);
        Due.is("guarded(7) of six", x.guarded(7), 0b1110111);
        x.arm(0, 4);
        Due.is("guarded(7) of six, one is DARED by five", x.guarded(7), 0b1110110);
        KingsBalance none = new KingsBalance();
        none.standing(1, 0);
        Due.is("guarded(0) of nobody", none.guarded(0), 0);
        none.king(0, 0);
        Due.is("guarded(0) of one", none.guarded(0), 1);
        for (int s : Bounds.outside(0, -1)) Due.is("guarded(" + s + ") of a new object", new KingsBalance().guarded(s), NONE);
    }

    private static void marry(KingsBalance x, int a, int b, int pairs, int bars) {
        Due.is("marry(0, " + a + ", " + b + ", 0)", x.marry(0, a, b, 0), pairs);
        Due.is("marry(0, " + a + ", " + b + ", 1)", x.marry(0, a, b, 1), bars);
    }

    private static void promise28Most() {
        Due.says(28, "as if b were FALLEN, and his STRENGTH had come to a's (99 at most)");
        // 0 and 1 together have 99, 100 and 98; 2 has 98 and 99
        marry(alone(49, 50, 98), 0, 1, -2, 0b100);
        marry(alone(50, 49, 99), 0, 1, -3, 0);
        marry(alone(50, 50, 99), 0, 1, -2, 0);
        marry(alone(50, 50, 98), 0, 1, -1, 0b100);
        marry(alone(49, 49, 98), 0, 1, -2, 0);
        marry(alone(49, 49, 97), 0, 1, -1, 0b100);
        marry(alone(99, 99, 99), 0, 1, 0, 0);
        marry(alone(99, 99, 98), 0, 1, -1, 0);
        marry(alone(0, 0, 0), 0, 1, 0, 0);
        marry(alone(0, 0, 1), 0, 1, -1, 0);
        marry(alone(5, 5), 0, 1, 0, 0);
        marry(alone(5, 4), 0, 1, -1, 0);
        marry(alone(5, 4), 1, 0, -1, 0);
        KingsBalance x = alone(50, 49, 98);
        marry(x, 1, 0, -2, 0b100);
        strengths("behind marry", x, 50, 49, 98);
        Due.is("count(1)", x.count(1), 3);
        Due.is("of(0, 3)", x.of(0, 3), 0);
    }

    private static void promise28Bars() {
        Due.says(28, "BARS: KINGS (alive, not a, b) that are DARED by more then");
        // 3 and 3 wed are 6: ten pairs are gone, five come, and all of 5 are DARED by one more
        KingsBalance x = alone(3, 3, 5, 5, 5, 5, 5);
        marry(x, 0, 1, -5, 0b1111100);
        // 6 is DARED by six now, and by five then: fourteen pairs, and nine
        x.arm(6, 0);
        marry(x, 0, 1, -5, 0b0111100);
        // as many then as now is no more: 1 DARES 2 now, 0 with him then
        KingsBalance y = alone(4, 6, 5);
        marry(y, 0, 1, -2, 0);
        // a is DARED by two more, as he has 99 of 198 then, and 2 and 3 have 149; but he is not told
        KingsBalance z = Play.kings(99, 0, 99, 0, 99, 0, 50, 0);
        z.standing(2, 0);
        z.block(0, 1, 0);
        z.block(0, 3, 2);
        Due.is("dares(0, 0, 1)", z.dares(0, 0, 1), 0);
        marry(z, 0, 1, -2, 0);
        marry(z, 1, 0, -2, 0);
        // the STRENGTH of b is not there twice: 0 has 20 of 40 in his BLOCK then, and is not feared by a LEAGUE
        KingsBalance league = Play.kings(10, 0, 10, 0, 9, 0, 11, 0);
        league.standing(4, 0);
        league.block(0, 1, 0);
        Due.is("dares(0, 0, 0) of 20 of 40", league.dares(0, 0, 0), 0b1100);
        marry(league, 0, 1, -2, 0);
        // nor is it less than nothing: 0 has 21 of 41 then, and comes with 20000 against 20000 of all others
        KingsBalance feared = Play.kings(10, 10, 11, 10, 9, 0, 11, 0);
        feared.standing(4, 0);
        feared.block(0, 1, 0);
        Play.world(feared, "less 100");
        Due.is("dares(0, 3, 0)", feared.dares(0, 3, 0), 0b0100);
        marry(feared, 0, 1, 0, 0);
        // with one who is FALLEN: five pairs, and three
        KingsBalance fallen = alone(3, 3, 5, 0, 9);
        fallen.lead(0, 4, 3);
        marry(fallen, 0, 1, -2, 0b00100);
    }

    private static void promise28Refusals() {
        Due.says(28, "-1000: NONE; -1001: BAD; -1002: one is FALLEN.");
        KingsBalance x = seven(5, 0, 1, 2, 3, 4, 5, 6, 1);
        x.arm(6, 50);
        Due.is("lead(7, 6, 2)", x.lead(7, 6, 2), 1);
        for (int s : Bounds.outside(0, 7)) Due.is("marry(" + s + ", 0, 1, 0)", x.marry(s, 0, 1, 0), -1000);
        for (int what : Bounds.outside(0, 1)) Due.is("marry(7, 0, 1, " + what + ")", x.marry(7, 0, 1, what), -1000);
        for (int k : Bounds.outside(0, 6)) {
            Due.is("marry(7, " + k + ", 0, 0)", x.marry(7, k, 0, 0), -1000);
            Due.is("marry(7, 0, " + k + ", 1)", x.marry(7, 0, k, 1), -1000);
            Due.is("marry(7, " + k + ", " + k + ", 0)", x.marry(7, k, k, 0), -1000);
            Due.is("marry(7, 2, " + k + ", 0)", x.marry(7, 2, k, 0), -1000);
        }
        for (int k = 0; k < 7; k++) {
            Due.is("marry(7, " + k + ", " + k + ", 0)", x.marry(7, k, k, 0), -1001);
            if (k != 2) Due.is("marry(7, " + k + ", 2, 0)", x.marry(7, k, 2, 0), -1002);
            if (k != 2) Due.is("marry(7, 2, " + k + ", 1)", x.marry(7, 2, k, 1), -1002);
        }
        Due.is("marry(8, 3, 3, 0)", x.marry(8, 3, 3, 0), -1000);
        Due.is("marry(7, 3, 3, 2)", x.marry(7, 3, 3, 2), -1000);
        Due.is("marry(7, 2, 3, 2)", x.marry(7, 2, 3, 2), -1000);
        Due.is("marry(8, 2, 3, 0)", x.marry(8, 2, 3, 0), -1000);
        // 6 DARES five now, and four of them then; 0 DARES three then
        Due.is("marry(7, 0, 1, 0)", x.marry(7, 0, 1, 0), 2);
        Due.is("marry(7, 0, 1, 1)", x.marry(7, 0, 1, 1), 0b0111000);
    }
}
