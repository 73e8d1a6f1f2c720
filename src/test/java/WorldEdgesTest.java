import java.util.List;

/** Promise 8, and what promise 9 says of E: which byte can come behind which, and where a FAULT is. */
public final class WorldEdgesTest {
    private static final String DIGITS = "0123456789", FACTS = "msok!(", COMPARES = "<=>";

    public static void main(String[] args) {
        words();
        amounts();
        blanks();
        tests();
        joins();
        open();
        openEnds();
        clauses();
        ends();
        longest();
        empties();
        stays();
        counts();
        ranks();
        Due.end("WorldEdgesTest");
    }

    private static void whole(String text) {
        Due.is("world " + text, Play.world(new KingsBalance(), text), 1);
    }

    private static void fault(int place, String text) {
        Due.is("world " + text, Play.world(new KingsBalance(), text), -10 - place);
    }

    /** Of all 256 bytes just these can come behind the text; with those in ends it is a WORLD. */
    private static void follows(String text, String signs, String ends) {
        for (int b = 0; b < 256; b++) {
            String longer = text + (char) b;
            if (ends.indexOf(b) >= 0) whole(longer);
            else fault(signs.indexOf(b) >= 0 ? longer.length() : text.length(), longer);
        }
    }

    private static void words() {
        Due.says(8, "FAULT: the place of the first byte with which no WORLD can go on (the size, if it ends too early).");
        follows("", "cwlt", "");
        for (String word : new String[] {"cost ", "word ", "less ", "take "}) {
            for (int n = 1; n < 5; n++) follows(word.substring(0, n), word.substring(n, n + 1), "");
            for (int n = 0; n <= 5; n++) fault(n, word.substring(0, n));
            for (int n = 0; n < 5; n++) fault(7 + n, "word 1;" + word.substring(0, n));
        }
        follows("word 1;", "cwlt", "");
        follows("cost 1 m=1;", "cwlt", "");
        fault(0, "WORD 1");
        fault(0, "1");
        fault(0, "m=1");
        fault(2, "wost 1");
        fault(1, "tost 1 m=1");
    }

    private static void amounts() {
        Due.says(8, "n 1 to 3 digits, no 0 ahead of another");
        for (String word : new String[] {"word ", "less ", "take "}) {
            follows(word, DIGITS, DIGITS);
            follows(word + "0", ";", "");
            follows(word + "7", ";" + DIGITS, DIGITS);
            follows(word + "10", ";" + DIGITS, DIGITS);
            follows(word + "100", ";", "");
            for (String n : new String[] {"0", "1", "9", "10", "99", "100", "999"}) whole(word + n);
            for (String n : new String[] {"00", "01", "09", "000", "012", "0;"}) fault(n.equals("0;") ? 7 : 6, word + n);
            for (String n : new String[] {"1000", "9990", "12345"}) fault(8, word + n);
        }
        follows("cost ", DIGITS, "");
        follows("cost 0", " ", "");
        follows("cost 7", " " + DIGITS, "");
        follows("cost 70", " " + DIGITS, "");
        follows("cost 700", " ", "");
        for (String n : new String[] {"0", "9", "10", "99", "100", "999"}) whole("cost " + n + " m=1");
        for (String n : new String[] {"00", "01", "099"}) fault(6, "cost " + n + " m=1");
        fault(8, "cost 1000 m=1");
        Due.says(8, "one of < = >, a number likewise");
        for (char fact : "msok".toCharArray()) {
            for (char compare : COMPARES.toCharArray()) {
                String test = "cost 1 " + fact + compare;
                for (String n : new String[] {"0", "9", "10", "99", "100", "999"}) whole(test + n);
                for (String n : new String[] {"00", "01", "012"}) fault(10, test + n);
                fault(12, test + "1000");
                fault(9, test);
                fault(9, test + "-1");
            }
        }
    }

    private static void blanks() {
        Due.says(8, "one blank ahead of each part behind the word");
        fault(4, "word1");
        fault(5, "word  1");
        fault(6, "word 1 ");
        fault(0, " word 1");
        fault(4, "word\t1");
        fault(4, "word\n1");
        fault(4, "cost1 m=1");
        fault(5, "cost  1 m=1");
        fault(6, "cost 1m=1");
        fault(7, "cost 1  m=1");
        fault(8, "cost 1 m =1");
        fault(9, "cost 1 m= 1");
        fault(10, "cost 1 m=1 &s=1");
        fault(11, "cost 1 m=1& s=1");
        fault(8, "cost 1 ! m=1");
        fault(8, "cost 1 ( m=1)");
        fault(11, "cost 1 (m=1 )");
        fault(10, "cost 1 m=1 ;word 1");
        fault(11, "cost 1 m=1; word 1");
        fault(10, "cost 1 m=1 ");
    }

    private static void tests() {
        Due.says(8, "F: !F, (E), or a TEST: m or s or o or k, one of < = >");
        follows("cost 1 ", FACTS, "");
        for (char fact : "msok".toCharArray()) follows("cost 1 " + fact, COMPARES, "");
        for (char compare : COMPARES.toCharArray()) follows("cost 1 m" + compare, DIGITS, DIGITS);
        follows("cost 1 m=0", "&|;", "");
        follows("cost 1 m=7", "&|;" + DIGITS, DIGITS);
        follows("cost 1 m=70", "&|;" + DIGITS, DIGITS);
        follows("cost 1 m=700", "&|;", "");
        follows("cost 1 !m=0", "&|;", "");
        follows("cost 1 (m=0", "&|)", ")");
        follows("cost 1 (m=70", "&|)" + DIGITS, ")");
        follows("cost 1 (m=0)", "&|;", "");
        follows("cost 1 ((m=0)", "&|)", ")");
    }

    private static void joins() {
        Due.says(8, "E: T, or T|E. T: F, or F&T.");
        for (String join : new String[] {"&", "|"}) {
            follows("cost 1 m=1" + join, FACTS, "");
            follows("cost 1 (m=1" + join, FACTS, "");
            follows("cost 1 !m=1" + join, FACTS, "");
            whole("cost 1 m=1" + join + "s=1");
            fault(7, "cost 1 " + join + "m=1");
            fault(8, "cost 1 (" + join + "m=1)");
            fault(11, "cost 1 m=1" + join);
            fault(11, "cost 1 m=1" + join + ";word 1");
            fault(12, "cost 1 (m=1" + join + ")");
            fault(8, "cost 1 !" + join + "m=1");
        }
        whole("cost 1 m=1&s=1|o=1&k=1|m=1");
        whole("cost 1 m=1|s=1&o=1|k=1&m=1");
        whole("cost 1 (m=1|s=1)&!(o=1&k=1)");
        fault(10, "cost 1 m=1(s=1)");
        fault(12, "cost 1 (m=1)(s=1)");
        fault(8, "cost 1 ()");
        fault(10, "cost 1 m=1)");
        fault(7, "cost 1 )");
    }

    /** Of all rows of so many of ! and ( the one with this number: a 1 is a ( . */
    private static String opened(int number, int size) {
        StringBuilder open = new StringBuilder();
        for (int i = 0; i < size; i++) open.append((number >> i & 1) == 0 ? '!' : '(');
        return open.toString();
    }

    private static String closed(int number) {
        return Play.times(")", Integer.bitCount(number));
    }

    private static void open() {
        Due.says(8, "At most 5 of ! and ( are open");
        for (int size = 0; size <= 5; size++) {
            for (int number = 0; number < 1 << size; number++) {
                String open = opened(number, size), close = closed(number);
                whole("cost 1 " + open + "m=1" + close);
                follows("cost 1 " + open, size == 5 ? "msok" : FACTS, "");
                fault(7 + size, "cost 1 " + open + ")");
                if (number > 0) fault(10 + size, "cost 1 " + open + "m=1");
                fault(10 + size + close.length(), "cost 1 " + open + "m=1" + close + ")");
            }
        }
        for (int number = 0; number < 64; number++) fault(12, "cost 1 " + opened(number, 6) + "m=1" + closed(number));
        fault(12, "cost 1 " + Play.times("!", 100));
        fault(12, "cost 1 " + Play.times("(", 113));
    }

    private static void openEnds() {
        Due.says(8, "a ( till its ) , a ! till its F ends");
        for (int number = 0; number < 32; number++) {
            String one = opened(number, 5) + "m=1" + closed(number);
            whole("cost 1 " + one + "&" + one);
            whole("cost 1 " + one + "|" + one + "|" + one);
            fault(7 + one.length() + 6, "cost 1 " + one + "&" + opened(number, 5) + "!m=1");
            fault(7 + one.length() + 6, "cost 1 " + one + "|" + opened(number, 5) + "(m=1");
        }
        // a ! is over when its F is, also in what is still open
        whole("cost 1 ((((!m=1&!m=1|!m=1))))");
        whole("cost 1 ((((!m=1|(m=1)&(m=1)))))");
        whole("cost 1 (((!(m=1)&!(m=1)|!!m=1)))");
        whole("cost 1 (!!!!m=1&!!!!m=1)");
        whole("cost 1 !(!(!m=1&!m=1)|!(m=1))");
        fault(12, "cost 1 (((!(!!m=1))))");
        fault(16, "cost 1 !(m=1|!!!!m=1)");
        fault(17, "cost 1 ((((!m=1&!!m=1))))");
        fault(18, "cost 1 ((((!m=12|!(m=1)))))");
        fault(24, "cost 1 (((((m=1)))))&m=1)");
    }

    private static void clauses() {
        Due.says(8, "CLAUSES, 10 at most, with ; between");
        String[] each = {"word 1", "less 20", "take 300", "cost 4 m=5"};
        for (String clause : each) {
            for (int n = 1; n <= 10; n++) {
                String row = Play.times(clause + ";", n - 1) + clause;
                whole(row);
                fault(n < 10 ? row.length() + 1 : row.length(), row + ";");
                fault(n < 10 ? row.length() + 1 : row.length(), row + ";;");
                if (n == 10) fault(row.length(), row + ";w");
            }
        }
        String ten = Play.times("word 1;", 9) + "word 1";
        follows(ten, DIGITS, DIGITS);
        follows(Play.times("word 1;", 9) + "word 0", "", "");
        follows(Play.times("word 1;", 9) + "cost 1 m=0", "&|", "");
        follows(Play.times("word 1;", 8) + "word 0", ";", "");
        follows(Play.times("word 1;", 9), "cwlt", "");
        fault(0, ";");
        fault(0, ";word 1");
        fault(7, "word 1;;word 1");
        fault(6, "word 1,word 1");
        fault(6, "word 1:word 1");
    }

    private static void ends() {
        Due.says(8, "the size, if it ends too early");
        String text = "cost 12 !(m=1|s<23)&!!o>4;word 5;less 678;take 90";
        for (int n = 0; n <= text.length(); n++) {
            String part = text.substring(0, n);
            // behind the ) , behind the TEST outside of it, and behind a digit of word, less, take
            if (List.of(19, 25, 32, 39, 40, 41, 48, 49).contains(n)) whole(part);
            else fault(n, part);
        }
    }

    private static void longest() {
        Due.says(8, "THE TAPE (bytes, 120 at most)");
        String row = "cost 1 m=1" + Play.times("&m=1", 27);
        Due.is("bytes", row.length(), 118);
        whole(row + "23");
        whole(row + "2");
        fault(119, row + "&");
        fault(120, row + "&m");
        fault(119, row + "&x");
        fault(119, row + "2x");
        fault(118, row + "x&");
        fault(120, row + ";w");
        fault(119, row + ";x");
        fault(120, row + "2|");
        String costly = Play.times("cost 99 k<9;", 9) + "cost 99 k<9";
        whole(costly);
        whole(costly + "9");
        fault(119, costly + ";");
        fault(119, costly + "x");
        // the first of 120 bytes
        fault(0, "x" + row + "2");
        KingsBalance x = new KingsBalance();
        Due.is("world() of 120 bytes", Play.world(x, row + "23"), 1);
        Due.is("world() of 120 other ones", Play.world(x, row + "&m"), -130);
        Due.is("world() of a part of those", Play.world(x, "cost 1 m=1&"), -21);
        Due.is("count(2)", x.count(2), 1);
    }

    private static void empties() {
        Due.says(8, "THE TAPE, which is empty then (by a FAULT, too)");
        KingsBalance x = new KingsBalance();
        Due.is("world() of nothing", x.world(), -10);
        Due.is("count(4)", x.count(4), 0);
        Due.is("world()", Play.world(x, "word 1"), 1);
        Due.is("count(4)", x.count(4), 0);
        Due.is("world() of nothing again", x.world(), -10);
        Due.is("world() by a FAULT", Play.world(x, "wordy"), -14);
        Due.is("count(4)", x.count(4), 0);
        Due.is("feed(0, 3)", x.feed(0x776f72, 3), 3);
        Due.is("feed(0, 3)", x.feed(0x642031, 3), 6);
        Due.is("world() of what came since", x.world(), 2);
        Due.is("count(4)", x.count(4), 0);
        Play.feed(x, Play.times("word 1;", 17));
        Due.is("count(4)", x.count(4), 119);
        Due.is("world() of 119 bytes", x.world(), -79);
        Due.is("count(4)", x.count(4), 0);
        Due.is("feed of 8 behind it", x.feed(0, 8), 8);
    }

    private static void stays() {
        Due.says(8, "-10 less the FAULT (the WORLD stays)");
        String[] faults = {"", "x", "cost 900 m<99;", "word 0;less 900;take 0;", "less 0;word 0;take 0;cost 1 m<99&",
            "cost 1 !!!!!!m=1", "take 0;word 0;less 0;costs", Play.times("cost 9 k<9;", 10)};
        for (String text : faults) {
            KingsBalance x = Play.kings(20, 0, 10, 10, 5, 20);
            x.standing(1, 0);
            x.pact(0, 2, 1);
            Due.is("world()", Play.world(x, "cost 3 m=10;cost 2 s=20;word 5;less 100;take 50"), 1);
            int got = Play.world(x, text);
            Due.is("world " + text, got <= -10 ? 1 : 0, 1);
            Due.is("cost(0, 1)", x.cost(0, 1), 5);
            Due.is("cost(0, 2)", x.cost(0, 2), 2);
            Due.is("cost(1, 2)", x.cost(1, 2), 3);
            Due.is("force(0, 10)", x.force(0, 10), 19000);
            Due.is("keeps(0, 2, 1): 5 is no more than word", x.keeps(0, 2, 1), 1);
            Due.is("lead(0, 0, 1)", x.lead(0, 0, 1), 1);
            // 20 less 20 * 10000 / 38000, and 50 * 10 / 100 more
            Due.is("of(0, 0)", x.of(0, 0), 20);
            Due.is("count(2)", x.count(2), 1);
        }
    }

    private static void counts() {
        Due.says(8, "how many there were so far, with it");
        KingsBalance x = new KingsBalance();
        Due.is("count(2)", x.count(2), 0);
        for (int n = 1; n <= 60; n++) {
            Due.is("world() " + n, Play.world(x, "word " + n), n);
            Due.is("count(2)", x.count(2), n);
            if (n % 7 == 0) Due.is("world() by a FAULT", Play.world(x, "word"), -14);
            Due.is("count(2) behind it", x.count(2), n);
        }
        KingsBalance many = Play.kings(5, 0, 6, 9);
        for (int n = 1; n <= 50; n++) {
            Due.is("world() " + n, Play.world(many, "cost " + n + " s=5&m=9&!o=5|s=9;cost 7 s=9"), n);
            Due.is("cost(0, 1) by world " + n, many.cost(0, 1), n);
        }
        KingsBalance y = new KingsBalance();
        Play.world(y, "word 1");
        y.image();
        Due.is("world()", Play.world(y, "word 1"), 2);
        y.undo();
        Due.is("world() behind undo", Play.world(y, "word 1"), 2);
    }

    private static void holds(String e, boolean due) {
        KingsBalance x = Play.kings(5, 0, 6, 9);
        Due.is("world with " + e, Play.world(x, "cost 1 " + e), 1);
        Due.is("cost(0, 1) by " + e, x.cost(0, 1), due ? 1 : 0);
    }

    /** For KING 0 with KING 1 s=5 holds, and s=0 does not. */
    private static void ranks() {
        Due.says(9, "E: T, or T|E. T: F, or F&T. F: !F, (E), or a TEST");
        String[] test = {"s=0", "s=5"};
        for (int i = 0; i < 8; i++) {
            boolean a = (i & 1) != 0, b = (i & 2) != 0, c = (i & 4) != 0;
            String p = test[i & 1], q = test[i >> 1 & 1], r = test[i >> 2 & 1];
            holds(p + "&" + q + "|" + r, a && b || c);
            holds(p + "|" + q + "&" + r, a || b && c);
            holds("(" + p + "|" + q + ")&" + r, (a || b) && c);
            holds(p + "&(" + q + "|" + r + ")", a && (b || c));
            holds("!" + p + "&" + q + "|" + r, !a && b || c);
            holds("!" + p + "|" + q + "&" + r, !a || b && c);
            holds("!(" + p + "&" + q + ")|" + r, !(a && b) || c);
            holds("!(" + p + "|" + q + ")&" + r, !(a || b) && c);
            holds(p + "&!" + q + "&" + r, a && !b && c);
            holds(p + "|!" + q + "|" + r, a || !b || c);
            holds("!!" + p + "&!!!" + q, a && !b);
            holds("!!!!!" + p + "|" + q + "&!!!!!" + r, !a || b && !c);
            holds("!(" + p + "&!(" + q + "|" + r + "))", !(a && !(b || c)));
            holds("(((((" + p + ")))))&" + q + "|(((((" + r + ")))))", a && b || c);
        }
        Due.says(9, "At most 5 of ! and ( are open");
        for (int number = 0; number < 32; number++) {
            String open = opened(number, 5), close = closed(number);
            boolean odd = (5 - close.length()) % 2 == 1;
            holds(open + "s=5" + close, !odd);
            holds(open + "s=0" + close, odd);
        }
        // many that wait for one another, and as many as there is room for
        holds("s=0" + Play.times("|s=0", 26) + "|s=5", true);
        holds("s=5" + Play.times("&s=5", 26) + "&s=0", false);
        holds("s=5" + Play.times("&s=5", 27), true);
        holds("s=0&(s=5|s=5)" + Play.times("|s=0&s=5", 12), false);
        holds("s=0|(s=5&(s=0|(s=5&(s=0|(s=5)))))", true);
        holds("s=5&(s=0|(s=5&(s=0|(s=5&(s=0)))))", false);
    }
}
