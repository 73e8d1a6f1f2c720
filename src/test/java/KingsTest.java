/** Promises 1 to 10: kings, worlds. */
public final class KingsTest {
    private static final int NONE = KingsBalance.NONE, BAD = KingsBalance.BAD;
    private static final int STATE = KingsBalance.STATE, FULL = KingsBalance.FULL;

    public static void main(String[] args) {
        promise01();
        promise02();
        promise03();
        promise04();
        promise05();
        promise06();
        promise07();
        promise08Faults();
        promise08Limits();
        promise08Counts();
        promise09Tests();
        promise09Joins();
        promise09Clauses();
        promise10();
        Due.end("KingsTest");
    }

    private static void promise01() {
        Due.is("NONE", NONE, -1);
        Due.is("BAD", BAD, -2);
        Due.is("STATE", STATE, -3);
        Due.is("FULL", FULL, -4);
        Due.is("NO", KingsBalance.NO, Long.MIN_VALUE);
        KingsBalance x = new KingsBalance();
        for (int what = 0; what <= 6; what++) Due.is("new count(" + what + ")", x.count(what), 0);
        Due.is("new of(0, 0)", x.of(0, 0), NONE);
        Due.is("new courted()", x.courted(), -5);
        Due.is("new undo()", x.undo(), STATE);
        Due.is("new trace(0)", x.trace(0), NONE);
        Due.is("new first(0)", x.first(0), NONE);
        Due.is("new world()", x.world(), -10);
    }

    private static void promise02() {
        KingsBalance x = new KingsBalance();
        Due.is("king(-1, 0)", x.king(-1, 0), BAD);
        Due.is("king(100, 0)", x.king(100, 0), BAD);
        Due.is("king(0, -1)", x.king(0, -1), BAD);
        Due.is("king(0, 41)", x.king(0, 41), BAD);
        Due.is("king(MIN, MAX)", x.king(Integer.MIN_VALUE, Integer.MAX_VALUE), BAD);
        Due.is("count(0) behind BAD", x.count(0), 0);
        Due.is("king(0, 0)", x.king(0, 0), 0);
        Due.is("king(99, 40)", x.king(99, 40), 1);
        for (int k = 2; k < 7; k++) Due.is("king " + k, x.king(10 + k, 20 + k), k);
        Due.is("eighth king", x.king(1, 1), FULL);
        Due.is("eighth king, BAD first", x.king(1, 41), BAD);
        Due.is("count(0)", x.count(0), 7);
        Due.is("of(1, 0)", x.of(1, 0), 99);
        Due.is("of(1, 1)", x.of(1, 1), 40);
        Due.is("of(6, 0)", x.of(6, 0), 16);
        Due.is("of(6, 1)", x.of(6, 1), 26);
    }

    private static void promise03() {
        KingsBalance x = Play.kings(20, 3, 10, 7, 0, 9);
        Due.is("of(0, 0)", x.of(0, 0), 20);
        Due.is("of(1, 1)", x.of(1, 1), 7);
        Due.is("of(2, 0) no strength", x.of(2, 0), 0);
        Due.is("of(2, 2) no strength is not fallen", x.of(2, 2), 0);
        Due.is("of(2, 3)", x.of(2, 3), 2);
        Due.is("of(-1, 0)", x.of(-1, 0), NONE);
        Due.is("of(3, 0)", x.of(3, 0), NONE);
        Due.is("of(0, -1)", x.of(0, -1), NONE);
        Due.is("of(0, 4)", x.of(0, 4), NONE);
        x.standing(1, 0);
        Due.is("lead(0, 0, 1)", x.lead(0, 0, 1), 1);
        Due.is("of(1, 0) fallen", x.of(1, 0), 0);
        Due.is("of(1, 1) fallen", x.of(1, 1), 7);
        Due.is("of(1, 2) fallen", x.of(1, 2), 1);
        Due.is("of(1, 3) fallen", x.of(1, 3), 0);
        Due.is("of(0, 2)", x.of(0, 2), 0);
        Due.is("of(0, 3)", x.of(0, 3), 0);
        x.arm(2, 99);
        Due.is("lead(0, 2, 0)", x.lead(0, 2, 0), 1);
        Due.is("of(0, 3) to him who won", x.of(0, 3), 2);
        Due.is("of(1, 3) went to king 0", x.of(1, 3), 0);
    }

    private static void promise04() {
        KingsBalance x = Play.kings(20, 3, 10, 7);
        Due.is("arm(0, 99)", x.arm(0, 99), 20);
        Due.is("arm(0, 0)", x.arm(0, 0), 99);
        Due.is("arm(0, 100)", x.arm(0, 100), BAD);
        Due.is("arm(0, -1)", x.arm(0, -1), BAD);
        Due.is("arm(2, 5)", x.arm(2, 5), NONE);
        Due.is("arm(-1, 5)", x.arm(-1, 5), NONE);
        Due.is("arm(2, 100)", x.arm(2, 100), NONE);
        Due.is("of(0, 0)", x.of(0, 0), 0);
        Due.is("of(0, 2)", x.of(0, 2), 0);
        Due.is("of(1, 0)", x.of(1, 0), 10);
        x.standing(1, 0);
        x.lead(0, 1, 0);
        Due.is("arm(0, 5) fallen", x.arm(0, 5), STATE);
        Due.is("arm(0, 100) fallen", x.arm(0, 100), BAD);
        Due.is("of(0, 0) fallen", x.of(0, 0), 0);
    }

    private static void promise05() {
        KingsBalance x = Play.kings(20, 3, 10, 7, 5, 5);
        Due.is("worth(0, 1, 0)", x.worth(0, 1, 0), 10);
        Due.is("worth(1, 0, 99)", x.worth(1, 0, 99), 10);
        Due.is("worth(0, 1, 7)", x.worth(0, 1, 7), 0);
        Due.is("worth(1, 0, 8)", x.worth(1, 0, 8), 99);
        Due.is("worth(0, 2, 1)", x.worth(0, 2, 1), 10);
        Due.is("worth(0, 1, 100)", x.worth(0, 1, 100), BAD);
        Due.is("worth(0, 1, -1)", x.worth(0, 1, -1), BAD);
        Due.is("worth(1, 1, 5)", x.worth(1, 1, 5), BAD);
        Due.is("worth(3, 1, 5)", x.worth(3, 1, 5), NONE);
        Due.is("worth(1, 3, 5)", x.worth(1, 3, 5), NONE);
        Due.is("worth(-1, 1, 100)", x.worth(-1, 1, 100), NONE);
        Due.is("worth(3, 3, 5)", x.worth(3, 3, 5), NONE);
        Due.is("worth(0, 1, 7) again", x.worth(0, 1, 7), 7);
        x.standing(1, 0);
        Due.is("war(0, 0, 1, 2) takes the worth to a", x.war(0, 0, 1, 2), 8);
        x.lead(0, 0, 1);
        Due.is("worth(1, 0, 3) of a fallen one", x.worth(1, 0, 3), 8);
        Due.is("worth(0, 1, 3) to a fallen one", x.worth(0, 1, 3), 7);
    }

    private static void promise06() {
        KingsBalance x = Play.kings(20, 3, 10, 7, 5, 5);
        Due.is("pact(0, 1, 3)", x.pact(0, 1, 3), 0);
        Due.is("pact(1, 0, 1)", x.pact(1, 0, 1), 0);
        Due.is("pact(0, 1, 2)", x.pact(0, 1, 2), 3);
        Due.is("pact(1, 0, 0)", x.pact(1, 0, 0), 1);
        Due.is("pact(0, 2, 0)", x.pact(0, 2, 0), 0);
        Due.is("pact(0, 1, 4)", x.pact(0, 1, 4), BAD);
        Due.is("pact(0, 1, -1)", x.pact(0, 1, -1), BAD);
        Due.is("pact(0, 0, 1)", x.pact(0, 0, 1), BAD);
        Due.is("pact(3, 0, 1)", x.pact(3, 0, 1), NONE);
        Due.is("pact(0, 3, 1)", x.pact(0, 3, 1), NONE);
        Due.is("pact(0, -1, 4)", x.pact(0, -1, 4), NONE);
        Due.is("pact(0, 1, 0)", x.pact(0, 1, 0), 2);
        x.standing(1, 0);
        x.lead(0, 0, 1);
        Due.is("pact(1, 0, 2) fallen", x.pact(1, 0, 2), 0);
        Due.is("pact(1, 0, 1) fallen", x.pact(1, 0, 1), 2);
    }

    private static void promise07() {
        KingsBalance x = new KingsBalance();
        Due.is("feed(7, 0)", x.feed(7, 0), BAD);
        Due.is("feed(7, 9)", x.feed(7, 9), BAD);
        Due.is("feed(7, -1)", x.feed(7, -1), BAD);
        Due.is("feed(7, MIN)", x.feed(7, Integer.MIN_VALUE), BAD);
        // "take 5" with bytes above the lowest ones, that do not count
        Due.is("feed tak", x.feed(0x7700000074616bL, 3), 3);
        Due.is("feed e 5", x.feed(0xffffffffff652035L, 3), 6);
        Due.is("world() of what was fed", x.world(), 1);
        Due.is("feed -1 8", x.feed(-1L, 8), 8);
        for (int n = 2; n <= 14; n++) Due.is("feed 8 bytes, " + n, x.feed(0, 8), 8 * n);
        Due.is("feed 1 byte", x.feed(0, 1), 113);
        Due.is("feed 8 bytes too many", x.feed(0, 8), FULL);
        Due.is("count(4) behind FULL", x.count(4), 113);
        Due.is("feed 7 bytes", x.feed(0, 7), 120);
        Due.is("feed 1 byte too many", x.feed(0, 1), FULL);
        Due.is("feed 9 bytes, BAD first", x.feed(0, 9), BAD);
        Due.is("world() of byte 255", x.world(), -10);
    }

    private static void faultAt(int place, String text) {
        KingsBalance x = new KingsBalance();
        Due.is("FAULT of " + text, Play.world(x, text), -10 - place);
        Due.is("bytes behind a FAULT of " + text, x.count(4), 0);
        Due.is("WORLDS behind a FAULT of " + text, x.count(2), 0);
    }

    private static void goesWell(String text) {
        KingsBalance x = new KingsBalance();
        Due.is("world " + text, Play.world(x, text), 1);
        Due.is("bytes behind world " + text, x.count(4), 0);
    }

    private static void promise08Faults() {
        faultAt(0, "");
        faultAt(0, "x");
        faultAt(0, " cost 3 m=1");
        faultAt(0, ";");
        faultAt(1, "w5");
        faultAt(2, "wo5");
        faultAt(4, "cost5 m=1");
        faultAt(1, "c");
        faultAt(1, "cist");
        faultAt(3, "wor");
        faultAt(3, "worm 1");
        faultAt(4, "word");
        faultAt(4, "word;");
        faultAt(5, "word ");
        faultAt(5, "word  1");
        faultAt(5, "word -1");
        faultAt(6, "word 01");
        faultAt(8, "word 1000");
        faultAt(6, "word 1 ");
        faultAt(6, "word 1 m=1");
        faultAt(7, "word 1;");
        faultAt(7, "word 1;;");
        faultAt(7, "word 1; less 2");
        faultAt(8, "less 999!");
        faultAt(5, "take a");
        faultAt(6, "cost 3");
        faultAt(6, "cost 3;");
        faultAt(7, "cost 3 ");
        faultAt(7, "cost 3  m=1");
        faultAt(7, "cost 3 z=1");
        faultAt(7, "cost 3 )");
        faultAt(8, "cost 3 m");
        faultAt(8, "cost 3 m 1");
        faultAt(8, "cost 3 m!1");
        faultAt(9, "cost 3 m=");
        faultAt(9, "cost 3 m==1");
        faultAt(10, "cost 3 m=01");
        faultAt(12, "cost 3 m=1234");
        faultAt(10, "cost 3 m=1)");
        faultAt(10, "cost 3 m=1!s=1");
        faultAt(11, "cost 3 m=1&");
        faultAt(11, "cost 3 m=1&&s=1");
        faultAt(11, "cost 3 m=1|;");
        faultAt(11, "cost 3 (m=1");
        faultAt(11, "cost 3 (m=1;word 1");
        faultAt(8, "cost 3 ()");
        faultAt(12, "cost 3 (m=1))");
        faultAt(8, "cost 3 !");
        faultAt(8, "cost 3 !;");
        faultAt(10, "cost 3 m=1\0");
        faultAt(10, "cost 3 m=1\u00ff");
    }

    private static void promise08Limits() {
        goesWell("cost 0 m=0");
        goesWell("cost 999 m<999;word 999;less 0;take 10");
        goesWell("cost 1 !!!!!m=1");
        goesWell("cost 1 (((((m=1)))))");
        goesWell("cost 1 !(!(!m=1))");
        goesWell("cost 1 !!!!!m=1&!!!!!m=1|(((((m=1)))))");
        goesWell("cost 1 (!!!!m=1|!!!!k=2)&(s=1)");
        faultAt(12, "cost 1 !!!!!!m=1");
        faultAt(12, "cost 1 !!!!!(m=1)");
        faultAt(12, "cost 1 ((((((m=1))))))");
        faultAt(12, "cost 1 (((((!m=1)))))");
        faultAt(16, "cost 1 (((((m=1|!s=1)))))");
        faultAt(12, "cost 1 !(!(!(m=1)))");
        goesWell("word 1;word 2;word 3;word 4;word 5;word 6;word 7;word 8;word 9;take 1");
        faultAt(69, "word 1;word 2;word 3;word 4;word 5;word 6;word 7;word 8;word 9;take 1;");
        faultAt(69, "word 1;word 2;word 3;word 4;word 5;word 6;word 7;word 8;word 9;take 1;less 1");
        String ten = Play.times("cost 1 m=1;", 9) + "cost 1 m=1";
        goesWell(ten);
        faultAt(109, ten + ";");
        String full = "cost 1 m=1" + Play.times("&m<9|o>0", 13) + "&s<123";
        Due.is("bytes of the longest world", full.length(), 120);
        goesWell(full);
        String dense = "cost 1 !!!!!m=1" + Play.times("&!!!!!m=1", 11) + "&m=111";
        Due.is("bytes of the densest world", dense.length(), 120);
        goesWell(dense);
    }

    private static void promise08Counts() {
        KingsBalance x = Play.kings(20, 0, 10, 4);
        Due.is("first world", Play.world(x, "cost 5 m=4"), 1);
        Due.is("a FAULT", Play.world(x, "cost 6 m=4;"), -21);
        Due.is("cost(0, 1): the WORLD stays", x.cost(0, 1), 5);
        Due.is("count(2)", x.count(2), 1);
        Due.is("a FAULT of nothing", x.world(), -10);
        Due.is("second world", Play.world(x, "word 6"), 2);
        Due.is("cost(0, 1): the newest rules", x.cost(0, 1), 0);
        Play.feed(x, "take ");
        Play.feed(x, "7");
        Due.is("third world", x.world(), 3);
        Due.is("count(2)", x.count(2), 3);
        // what stood on THE TAPE ahead of it does not count
        Due.is("a world", Play.world(x, "word 1;less 22"), 4);
        Due.is("its beginning", Play.world(x, "wo"), -12);
        Due.is("nor behind it", Play.world(x, "word 1;l"), -18);
        Due.is("nor behind a number", Play.world(x, "word "), -15);
        for (int n = 1; n <= 40; n++) Due.is("again " + n, Play.world(x, "cost 3 m=4&s>1|o<2&!k=1;cost 8 !m=4|k=0"), 4 + n);
        Due.is("cost(0, 1) of the last of many", x.cost(0, 1), 11);
    }

    private static void cost(KingsBalance x, String test, int zeroToTwo, int twoToZero) {
        Due.is("world with " + test, Math.min(Play.world(x, "cost 1 " + test), 0), 0);
        Due.is("cost(0, 2) by " + test, x.cost(0, 2), zeroToTwo);
        Due.is("cost(2, 0) by " + test, x.cost(2, 0), twoToZero);
    }

    private static void promise09Tests() {
        KingsBalance x = Play.kings(20, 30, 8, 8, 9, 5);
        Due.is("cost without a WORLD", x.cost(0, 2), 0);
        cost(x, "m<26", 1, 1);
        cost(x, "m<25", 0, 0);
        cost(x, "m=25", 1, 1);
        cost(x, "m>24", 1, 1);
        cost(x, "m>25", 0, 0);
        cost(x, "s=20", 1, 0);
        cost(x, "s<20", 0, 1);
        cost(x, "s>9", 1, 0);
        cost(x, "o=20", 0, 1);
        cost(x, "o<20", 1, 0);
        cost(x, "o>9", 0, 1);
        cost(x, "k=0", 1, 0);
        cost(x, "k=2", 0, 1);
        cost(x, "k>1", 0, 1);
        cost(x, "k<2", 1, 0);
        Due.is("cost(0, 0)", x.cost(0, 0), BAD);
        Due.is("cost(0, 3)", x.cost(0, 3), NONE);
        Due.is("cost(3, 3)", x.cost(3, 3), NONE);
        Due.is("cost(-1, 0)", x.cost(-1, 0), NONE);
        x.standing(1, 0);
        cost(x, "s=0", 0, 0);
        x.lead(0, 0, 2);
        Due.is("cost(2, 0) of a fallen one", x.cost(2, 0), 1);
    }

    private static void promise09Joins() {
        KingsBalance x = Play.kings(20, 30, 8, 8, 9, 5);
        // s=20 holds for 0, o=20 for 2, m=25 for both, m=0 for none
        cost(x, "s=20&m=25", 1, 0);
        cost(x, "s=20|o=20", 1, 1);
        cost(x, "s=20&o=20", 0, 0);
        cost(x, "!s=20", 0, 1);
        cost(x, "!!s=20", 1, 0);
        cost(x, "!!!s=20", 0, 1);
        cost(x, "m=25|m=0&s=20", 1, 1);
        cost(x, "m=0&s=20|m=25", 1, 1);
        cost(x, "(m=25|m=0)&s=20", 1, 0);
        cost(x, "s=20&(m=0|m=25)", 1, 0);
        cost(x, "!m=0&s=20", 1, 0);
        cost(x, "!(m=0&s=20)", 1, 1);
        cost(x, "!(s=20|m=0)", 0, 1);
        cost(x, "!s=20|m=0", 0, 1);
        cost(x, "m=0|m=0|s=20", 1, 0);
        cost(x, "m=25&m=25&o=20", 0, 1);
        cost(x, "m=25&m=0|s=20&m=25|m=0", 1, 0);
        cost(x, "!(!(!s=20&m=25)|m=0)", 0, 1);
        cost(x, "(m=25&(m=0|(s=20&(m=25|(m=0)))))", 1, 0);
    }

    private static void promise09Clauses() {
        KingsBalance x = Play.kings(20, 30, 8, 8, 9, 5);
        Play.world(x, "cost 7 s=20;cost 20 m=25;word 1;cost 300 o=20;cost 0 m=25;cost 999 m=1");
        Due.is("cost(0, 2) of several", x.cost(0, 2), 27);
        Due.is("cost(2, 0) of several", x.cost(2, 0), 320);
        Due.is("cost(1, 2) of several", x.cost(1, 2), 0);
        Play.world(x, Play.times("cost 999 m>0;", 8) + "cost 999 m>0");
        Due.is("cost(0, 1) nine times", x.cost(0, 1), 8991);
        Play.world(x, "less 500;less 300;take 100;take 0;word 5;word 2;cost 2 k=1;cost 3 k=2");
        Due.is("force(2, 6) by the last less", x.force(2, 6), 8700);
        x.pact(1, 0, 1);
        x.pact(2, 0, 1);
        Due.is("keeps(1, 0, 2) by the last word", x.keeps(1, 0, 2), 1);
        Due.is("keeps(2, 0, 1) by the last word", x.keeps(2, 0, 1), 0);
        x.standing(1, 0);
        x.lead(0, 0, 2);
        // 20000 - 7500 by 9000: 20 less 20 * 9000 / 25000, and nothing by the last take
        Due.is("of(0, 0) by the last take", x.of(0, 0), 13);
        x.arm(1, 9);
        Due.is("cost stays by the WORLD", x.cost(1, 0), 2);
        Play.world(x, "word 5;take 99");
        Due.is("force(1, 40) without less", x.force(1, 40), 9000);
        Play.world(x, "word 5;take 99;");
        Play.world(x, "cost 1 k=1");
        x.pact(1, 0, 1);
        x.king(3, 3);
        Due.is("keeps(1, 0, 3) without word", x.keeps(1, 0, 3), 0);
        x.lead(0, 1, 3);
        // 9 less 9 * 3000 / 18000
        Due.is("of(1, 0) without take", x.of(1, 0), 8);
    }

    private static void promise10() {
        KingsBalance x = Play.kings(20, 10, 3, 40, 0, 0);
        Due.is("force(0, 10)", x.force(0, 10), 20000);
        Due.is("force(0, 0) without a WORLD", x.force(0, 0), 20000);
        Play.world(x, "less 900");
        Due.is("force(0, 10)", x.force(0, 10), 20000);
        Due.is("force(0, 0)", x.force(0, 0), 11000);
        Due.is("force(0, 40)", x.force(0, 40), 0);
        Due.is("force(0, 32)", x.force(0, 32), 200);
        Due.is("force(1, 37)", x.force(1, 37), 300);
        Due.is("force(1, 36)", x.force(1, 36), 0);
        Due.is("force(2, 0)", x.force(2, 0), 0);
        Due.is("force(0, -1)", x.force(0, -1), BAD);
        Due.is("force(0, 41)", x.force(0, 41), BAD);
        Due.is("force(3, 0)", x.force(3, 0), NONE);
        Due.is("force(-1, 41)", x.force(-1, 41), NONE);
        x.standing(1, 0);
        x.lead(0, 0, 1);
        Due.is("of(1, 2)", x.of(1, 2), 0);
        x.lead(0, 1, 2);
        Due.is("force(2, 0) fallen", x.force(2, 0), 0);
    }
}
