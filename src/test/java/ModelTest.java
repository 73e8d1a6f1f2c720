/** Long runs of calls, each answered by the class and by the model. The same runs each time. */
public final class ModelTest {
    private static final int RUNS = 700, CALLS = 300, TEXTS = 1500;

    private long seed;
    private KingsBalance x;
    private Model model;

    public static void main(String[] args) {
        int runs = args.length > 0 ? Integer.parseInt(args[0]) : RUNS;
        ModelTest t = new ModelTest();
        for (int i = 0; i < TEXTS; i++) t.text(i);
        for (int run = 0; run < runs; run++) t.run(run);
        Due.end("ModelTest");
    }

    /** A number of 0 .. below-1 from a row that is always the same. */
    private int any(int below) {
        seed = seed * 6364136223846793005L + 1442695040888963407L;
        return (int) ((seed >>> 33) % below);
    }

    /** A number of the KIND of index that a call wants, and now and then one outside. */
    private int index(int below) {
        if (any(25) != 0) return any(Math.max(1, below));
        int[] odd = {-1, below, below + 1, 7, 8, 100, Integer.MAX_VALUE, Integer.MIN_VALUE};
        return odd[any(odd.length)];
    }

    private void text(int i) {
        seed = 77 + i;
        String text = worldText();
        if (any(3) != 0) text = spoilt(text);
        if (text.length() > 120) text = text.substring(0, 120);
        KingsBalance fresh = new KingsBalance();
        int fault = Model.fault(text);
        Due.is("world " + text, Play.world(fresh, text), fault < 0 ? 1 : -10 - fault);
    }

    private void run(int run) {
        seed = 1000003L * run + 17;
        x = new KingsBalance();
        model = new Model();
        int kings = any(8), stands = any(9), small = any(2) == 0 ? 100 : 12;
        for (int k = 0; k < kings; k++) king(run, small);
        for (int s = 0; s < stands; s++) standing(run);
        if (any(6) != 0) world(run);
        if (any(2) == 0) unwanted(run, kings);
        if (any(5) == 0) parted(run);
        for (int i = kings + stands; i < CALLS; i++) call(run, any(46));
    }

    /** Most lands become worth nothing to most, so that much is quiet and holds. */
    private void unwanted(int run, int kings) {
        for (int land = 0; land < kings; land++) {
            for (int k = 0; k < kings; k++) {
                if (any(5) != 0) due(run, "worth(" + land + ", " + k + ", 0)", x.worth(land, k, 0), model.worth(land, k, 0));
            }
        }
    }

    /** All of a run of rows. */
    private void parted(int run) {
        for (int what = 0; what < 3; what++) due(run, "all(" + what + ")", x.all(what), model.all(what));
        boolean hold = any(2) == 0;
        int from = any(3) == 0 ? any(12) : 0;
        for (int i = from; i < from + 3; i++) {
            for (int k = 0; k < 7; k++) due(run, "quiet(" + i + ", " + k + ", " + hold + ")", x.quiet(i, k, hold), model.quiet(i, k, hold));
        }
    }

    private void king(int run, int most) {
        int s = any(60) == 0 ? index(100) : any(most), p = any(60) == 0 ? index(41) : any(41);
        due(run, "king(" + s + ", " + p + ")", x.king(s, p), model.king(s, p));
    }

    private void standing(int run) {
        int kind = index(7), v = index(10);
        if (any(2) == 0) v = any(7);
        due(run, "standing(" + kind + ", " + v + ")", x.standing(kind, v), model.standing(kind, v));
    }

    private void world(int run) {
        String text = any(4) == 0 ? worldText() : likelyWorld();
        if (any(12) == 0) text = spoilt(text);
        for (int from = 0; from < text.length();) {
            int n = Math.min(text.length() - from, any(40) == 0 ? any(8) + 1 : 8);
            long w = any(1 << 20);
            for (int i = from; i < from + n; i++) w = w << 8 | text.charAt(i) & 255;
            due(run, "feed(" + w + ", " + n + ")", x.feed(w, n), model.feed(w, n));
            from += n;
        }
        due(run, "world() of " + text, x.world(), model.world());
    }

    private String worldText() {
        StringBuilder text = new StringBuilder();
        int clauses = any(30) == 0 ? 9 + any(3) : 1 + any(4);
        for (int c = 0; c < clauses; c++) {
            if (c > 0) text.append(';');
            if (clauses > 8 || any(3) == 0) text.append(new String[] {"word ", "less ", "take "}[any(3)]).append(amount());
            else text.append("cost ").append(amount()).append(' ').append(either(any(5) == 0 ? 7 : any(4)));
        }
        return text.toString();
    }

    /** A world whose costs are not so high that nobody ever dares anybody. */
    private String likelyWorld() {
        StringBuilder text = new StringBuilder();
        if (any(2) == 0) text.append("less ").append(any(900)).append(';');
        if (any(2) == 0) text.append("word ").append(any(8)).append(';');
        if (any(2) == 0) text.append("take ").append(any(300)).append(';');
        int costs = 1 + any(3);
        for (int c = 0; c < costs; c++) text.append("cost ").append(any(8)).append(' ').append(either(any(3))).append(';');
        text.setLength(text.length() - 1);
        return text.toString();
    }

    private String amount() {
        return Integer.toString(any(4) == 0 ? any(1000) : any(30));
    }

    private String either(int deep) {
        StringBuilder e = new StringBuilder(both(deep));
        while (any(4) == 0) e.append('|').append(both(deep));
        return e.toString();
    }

    private String both(int deep) {
        StringBuilder e = new StringBuilder(single(deep));
        while (any(4) == 0) e.append('&').append(single(deep));
        return e.toString();
    }

    private String single(int deep) {
        if (deep > 0 && any(3) != 0) return any(2) == 0 ? "!" + single(deep - 1) : "(" + either(deep - 1) + ")";
        String fact = new String[] {"m", "s", "o", "k"}[any(4)];
        return fact + new String[] {"<", "=", ">"}[any(3)] + (fact.equals("k") ? any(7) : any(3) == 0 ? any(100) : any(20));
    }

    private String spoilt(String text) {
        int at = any(text.length() + 1);
        String signs = "cwlt 0123456789msok<=>!&|();x\u0000\u00ff";
        char sign = signs.charAt(any(signs.length()));
        switch (any(4)) {
            case 0: return text.substring(0, at);
            case 1: return text.substring(0, at) + sign + text.substring(at);
            case 2: return at == text.length() ? text : text.substring(0, at) + text.substring(at + 1);
            default: return at == text.length() ? text + sign : text.substring(0, at) + sign + text.substring(at + 1);
        }
    }

    private void due(int run, String call, long got, long want) {
        Due.is("run " + run + ": " + call, got, want);
    }

    private void call(int run, int which) {
        int kings = (int) model.count(0), stands = (int) model.count(3);
        int k = index(kings), a = index(kings), b = index(kings), s = index(stands), what = index(3);
        // three of whom two are one are refused too often else
        if (kings > 2 && any(6) != 0) {
            a = k >= 0 && k < kings ? (k + 1 + any(kings - 1)) % kings : a;
            b = a >= 0 && a < kings ? (a + 1 + any(kings - 1)) % kings : b;
        }
        switch (which) {
            case 0: king(run, 100); break;
            case 1: standing(run); break;
            case 2: world(run); break;
            case 3: case 4: {
                int n = any(2) == 0 ? index(100) : any(12);
                due(run, "arm(" + k + ", " + n + ")", x.arm(k, n), model.arm(k, n));
                break;
            }
            case 5: case 6: {
                int n = any(2) == 0 ? index(100) : any(12);
                due(run, "worth(" + a + ", " + b + ", " + n + ")", x.worth(a, b, n), model.worth(a, b, n));
                break;
            }
            case 7: case 8: case 9: {
                int n = index(4);
                due(run, "pact(" + a + ", " + b + ", " + n + ")", x.pact(a, b, n), model.pact(a, b, n));
                break;
            }
            case 10: case 11: case 12: {
                int n = any(2) == 0 ? index(7) : any(3);
                due(run, "block(" + s + ", " + k + ", " + n + ")", x.block(s, k, n), model.block(s, k, n));
                break;
            }
            case 13: due(run, "of(" + k + ", " + what + ")", x.of(k, what), model.of(k, what)); break;
            case 14: due(run, "cost(" + a + ", " + b + ")", x.cost(a, b), model.cost(a, b)); break;
            case 15: {
                int p = index(41);
                due(run, "force(" + k + ", " + p + ")", x.force(k, p), model.force(k, p));
                break;
            }
            case 16: case 17: case 18: {
                int w = index(2);
                due(run, "comes(" + s + ", " + a + ", " + b + ", " + w + ")", x.comes(s, a, b, w), model.comes(s, a, b, w));
                break;
            }
            case 19: due(run, "war(" + s + ", " + a + ", " + b + ", " + what + ")", x.war(s, a, b, what), model.war(s, a, b, what)); break;
            case 20: case 21: {
                int w = index(2);
                due(run, "dares(" + s + ", " + k + ", " + w + ")", x.dares(s, k, w), model.dares(s, k, w));
                break;
            }
            case 22: due(run, "first(" + s + ")", x.first(s), model.first(s)); break;
            case 23: case 24: due(run, "keeps(" + k + ", " + a + ", " + b + ")", x.keeps(k, a, b), model.keeps(k, a, b)); break;
            case 25: due(run, "empty(" + k + ")", x.empty(k), model.empty(k)); break;
            default: rarer(run, which, k, a, b, s);
        }
    }

    private void rarer(int run, int which, int k, int a, int b, int s) {
        boolean hold = any(2) == 0;
        int what = index(2), third = index(3);
        switch (which) {
            case 26: if (any(8) == 0) due(run, "all(" + third + ")", x.all(third), model.all(third)); break;
            case 27: {
                int i = any(2) == 0 ? any(4) : index(60);
                if (any(8) == 0) due(run, "quiet(" + i + ", " + k + ", " + hold + ")", x.quiet(i, k, hold), model.quiet(i, k, hold));
                break;
            }
            case 28: if (any(2) == 0) due(run, "lead(" + s + ", " + a + ", " + b + ")", x.lead(s, a, b), model.lead(s, a, b)); break;
            case 29: if (any(6) == 0) due(run, "next(" + s + ")", x.next(s), model.next(s)); break;
            case 30: due(run, "edge(" + k + ")", x.edge(k), model.edge(k)); break;
            case 31: due(run, "courted()", x.courted(), model.courted()); break;
            case 32: if (any(4) == 0) due(run, "race(" + s + ")", x.race(s), model.race(s)); break;
            case 33: case 34: due(run, "few(" + s + ", " + what + ")", x.few(s, what), model.few(s, what)); break;
            case 35: due(run, "guarded(" + s + ")", x.guarded(s), model.guarded(s)); break;
            case 36: case 37: case 38:
                due(run, "marry(" + s + ", " + a + ", " + b + ", " + what + ")", x.marry(s, a, b, what), model.marry(s, a, b, what));
                break;
            case 39: case 40: {
                int arg = any(2) == 0 ? any(50) - 25 : any(1 << 30) * 4 + any(4);
                due(run, "act(" + s + ", " + third + ", " + arg + ")", x.act(s, third, arg), model.act(s, third, arg));
                break;
            }
            case 41: {
                int i = index(7);
                due(run, "trace(" + i + ")", x.trace(i), model.trace(i));
                break;
            }
            case 42: {
                int kind = index(7);
                due(run, "as(" + s + ", " + kind + ")", x.as(s, kind), model.as(s, kind));
                break;
            }
            case 43: if (any(3) == 0) due(run, "image()", x.image(), model.image()); break;
            case 44: due(run, "undo()", x.undo(), model.undo()); break;
            default: {
                int w = index(7);
                due(run, "count(" + w + ")", x.count(w), model.count(w));
            }
        }
    }
}
