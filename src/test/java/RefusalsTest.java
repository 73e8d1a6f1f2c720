import java.util.function.Supplier;
import java.util.function.ToLongFunction;

/** What block 5 of the terms says of refusals: of several the first one is told, and they change nothing. */
public final class RefusalsTest {
    private static final int NONE = KingsBalance.NONE, BAD = KingsBalance.BAD;
    private static final int STATE = KingsBalance.STATE, FULL = KingsBalance.FULL;
    private static final long NO = KingsBalance.NO;
    private static final int MIN = Integer.MIN_VALUE, MAX = Integer.MAX_VALUE;

    private static Supplier<KingsBalance> scene;

    public static void main(String[] args) {
        scene = RefusalsTest::rich;
        kingsOfRich();
        standingsOfRich();
        wordsOfRich();
        warsOfRich();
        actsOfRich();
        reads();
        scene = RefusalsTest::full;
        ofFull();
        reads();
        scene = KingsBalance::new;
        ofNothing();
        scene = RefusalsTest::unimaged;
        withoutImage();
        Due.end("RefusalsTest");
    }

    /** Five KINGS, of whom 4 is FALLEN, seven STANDINGS, a WORLD, some bytes, an image of another state, a TRACE. */
    private static KingsBalance rich() {
        KingsBalance x = unimaged();
        x.image();
        x.arm(0, 21);
        x.worth(3, 2, 44);
        x.pact(1, 3, 2);
        x.block(4, 1, 3);
        Play.feed(x, "word 7");
        x.act(4, 2, 5);
        return x;
    }

    private static KingsBalance unimaged() {
        KingsBalance x = Play.kings(20, 0, 12, 3, 9, 5, 30, 10, 5, 6);
        for (int kind = 0; kind < 7; kind++) x.standing(kind, kind + 1);
        Play.world(x, "cost 3 m<99;cost 4 s<10&!(o>20|k=1);word 6;less 500;take 50");
        x.worth(1, 0, 40);
        x.pact(1, 2, 1);
        x.pact(3, 1, 2);
        x.block(2, 1, 0);
        x.lead(1, 3, 4);
        Play.feed(x, "less ");
        x.act(5, 2, 5);
        return x;
    }

    /** Seven KINGS, all alive, eight STANDINGS, a WORLD of ten clauses, 120 bytes, an image, a TRACE. */
    private static KingsBalance full() {
        KingsBalance x = new KingsBalance();
        for (int k = 0; k < 7; k++) x.king(10 + k, 5 * k);
        for (int s = 0; s < 8; s++) x.standing(s % 7, 9 - s);
        Play.world(x, "cost 1 k=0;cost 2 k=6;less 5;less 7;take 9;take 50;word 3;word 2;cost 0 k<9;cost 4 m=5");
        x.image();
        x.arm(6, 99);
        x.pact(5, 6, 2);
        x.block(2, 6, 0);
        Play.feed(x, "cost 1 m=1" + Play.times("&s>9", 26) + "&o=999");
        x.act(6, 2, 1);
        return x;
    }

    /** The call is answered so, and an object on which it was made shows no other things than one on which it was not. */
    private static void refused(String call, ToLongFunction<KingsBalance> on, long due) {
        KingsBalance called = scene.get();
        Due.is(call, on.applyAsLong(called), due);
        Look.same(call, called, scene.get());
    }

    private static void kingsOfRich() {
        Due.says(2, "They change nothing.");
        refused("king(-1, 0)", x -> x.king(-1, 0), BAD);
        refused("king(100, 40)", x -> x.king(100, 40), BAD);
        refused("king(99, 41)", x -> x.king(99, 41), BAD);
        refused("king(0, -1)", x -> x.king(0, -1), BAD);
        refused("king(MIN, MAX)", x -> x.king(MIN, MAX), BAD);
        Due.says(3, "NONE.");
        refused("of(5, 0)", x -> x.of(5, 0), NONE);
        refused("of(-1, 4)", x -> x.of(-1, 4), NONE);
        refused("of(0, 4)", x -> x.of(0, 4), NONE);
        Due.says(4, "NONE; BAD; STATE: FALLEN.");
        refused("arm(5, 50)", x -> x.arm(5, 50), NONE);
        refused("arm(5, 100)", x -> x.arm(5, 100), NONE);
        refused("arm(-1, -1)", x -> x.arm(-1, -1), NONE);
        refused("arm(0, 100)", x -> x.arm(0, 100), BAD);
        refused("arm(0, -1)", x -> x.arm(0, -1), BAD);
        refused("arm(4, 100)", x -> x.arm(4, 100), BAD);
        refused("arm(4, 50)", x -> x.arm(4, 50), STATE);
        Due.says(5, "NONE; BAD.");
        refused("worth(5, 0, 5)", x -> x.worth(5, 0, 5), NONE);
        refused("worth(0, 5, 5)", x -> x.worth(0, 5, 5), NONE);
        refused("worth(5, 5, 5)", x -> x.worth(5, 5, 5), NONE);
        refused("worth(0, -1, 100)", x -> x.worth(0, -1, 100), NONE);
        refused("worth(1, 0, 100)", x -> x.worth(1, 0, 100), BAD);
        refused("worth(1, 0, -1)", x -> x.worth(1, 0, -1), BAD);
        refused("worth(2, 2, 5)", x -> x.worth(2, 2, 5), BAD);
        refused("worth(2, 2, -1)", x -> x.worth(2, 2, -1), BAD);
        Due.says(6, "NONE; BAD.");
        refused("pact(5, 0, 1)", x -> x.pact(5, 0, 1), NONE);
        refused("pact(0, 5, 1)", x -> x.pact(0, 5, 1), NONE);
        refused("pact(5, 5, 4)", x -> x.pact(5, 5, 4), NONE);
        refused("pact(-1, 0, 4)", x -> x.pact(-1, 0, 4), NONE);
        refused("pact(1, 2, 4)", x -> x.pact(1, 2, 4), BAD);
        refused("pact(1, 2, -1)", x -> x.pact(1, 2, -1), BAD);
        refused("pact(1, 1, 1)", x -> x.pact(1, 1, 1), BAD);
        refused("pact(1, 1, 4)", x -> x.pact(1, 1, 4), BAD);
        Due.says(7, "BAD: n not 1 .. 8; FULL.");
        refused("feed(32, 0)", x -> x.feed(32, 0), BAD);
        refused("feed(32, 9)", x -> x.feed(32, 9), BAD);
        refused("feed(32, MIN)", x -> x.feed(32, MIN), BAD);
        refused("feed(32, MAX)", x -> x.feed(32, MAX), BAD);
        Due.says(9, "NONE; BAD.");
        refused("cost(5, 0)", x -> x.cost(5, 0), NONE);
        refused("cost(5, 5)", x -> x.cost(5, 5), NONE);
        refused("cost(0, 0)", x -> x.cost(0, 0), BAD);
        Due.says(10, "NONE; BAD.");
        refused("force(5, 0)", x -> x.force(5, 0), NONE);
        refused("force(5, 41)", x -> x.force(5, 41), NONE);
        refused("force(0, 41)", x -> x.force(0, 41), BAD);
    }

    private static void standingsOfRich() {
        Due.says(11, "NONE: kind; BAD: v; FULL.");
        refused("standing(7, 0)", x -> x.standing(7, 0), NONE);
        refused("standing(-1, 10)", x -> x.standing(-1, 10), NONE);
        refused("standing(0, 10)", x -> x.standing(0, 10), BAD);
        refused("standing(6, -1)", x -> x.standing(6, -1), BAD);
        Due.says(12, "NONE; BAD.");
        refused("block(7, 0, 1)", x -> x.block(7, 0, 1), NONE);
        refused("block(0, 5, 1)", x -> x.block(0, 5, 1), NONE);
        refused("block(-1, 0, 7)", x -> x.block(-1, 0, 7), NONE);
        refused("block(0, -1, 7)", x -> x.block(0, -1, 7), NONE);
        refused("block(7, 5, 7)", x -> x.block(7, 5, 7), NONE);
        refused("block(2, 1, 7)", x -> x.block(2, 1, 7), BAD);
        refused("block(2, 1, -1)", x -> x.block(2, 1, -1), BAD);
        refused("block(2, 4, 7)", x -> x.block(2, 4, 7), BAD);
        Due.says(13, "NONE; BAD; STATE: one is FALLEN.");
        refused("comes(7, 0, 0, 0)", x -> x.comes(7, 0, 0, 0), NONE);
        refused("comes(0, 5, 5, 0)", x -> x.comes(0, 5, 5, 0), NONE);
        refused("comes(0, 4, 4, 2)", x -> x.comes(0, 4, 4, 2), NONE);
        refused("comes(0, 4, 5, 0)", x -> x.comes(0, 4, 5, 0), NONE);
        refused("comes(0, 4, 4, 0)", x -> x.comes(0, 4, 4, 0), BAD);
        refused("comes(0, 4, 0, 0)", x -> x.comes(0, 4, 0, 0), STATE);
        refused("comes(0, 0, 4, 1)", x -> x.comes(0, 0, 4, 1), STATE);
        Due.says(14, "NO: no such STANDING, KING, what; a is b, FALLEN ones.");
        refused("war(7, 0, 1, 0)", x -> x.war(7, 0, 1, 0), NO);
        refused("war(0, 5, 1, 0)", x -> x.war(0, 5, 1, 0), NO);
        refused("war(0, 0, 5, 0)", x -> x.war(0, 0, 5, 0), NO);
        refused("war(0, 0, 1, 3)", x -> x.war(0, 0, 1, 3), NO);
        refused("war(0, 1, 1, 0)", x -> x.war(0, 1, 1, 0), NO);
        refused("war(0, 4, 1, 0)", x -> x.war(0, 4, 1, 0), NO);
        refused("war(0, 1, 4, 2)", x -> x.war(0, 1, 4, 2), NO);
        refused("war(7, 4, 4, 3)", x -> x.war(7, 4, 4, 3), NO);
        Due.says(15, "NONE.");
        refused("dares(7, 0, 0)", x -> x.dares(7, 0, 0), NONE);
        refused("dares(0, 5, 0)", x -> x.dares(0, 5, 0), NONE);
        refused("dares(0, 4, 2)", x -> x.dares(0, 4, 2), NONE);
        Due.says(16, "NONE.");
        refused("first(7)", x -> x.first(7), NONE);
        refused("first(-1)", x -> x.first(-1), NONE);
    }

    private static void wordsOfRich() {
        Due.says(17, "NONE; BAD: two of them are one; STATE: one is FALLEN.");
        refused("keeps(5, 0, 0)", x -> x.keeps(5, 0, 0), NONE);
        refused("keeps(0, 5, 0)", x -> x.keeps(0, 5, 0), NONE);
        refused("keeps(4, 4, 5)", x -> x.keeps(4, 4, 5), NONE);
        refused("keeps(4, 4, 0)", x -> x.keeps(4, 4, 0), BAD);
        refused("keeps(0, 4, 0)", x -> x.keeps(0, 4, 0), BAD);
        refused("keeps(0, 4, 4)", x -> x.keeps(0, 4, 4), BAD);
        refused("keeps(0, 1, 4)", x -> x.keeps(0, 1, 4), STATE);
        Due.says(18, "NONE.");
        refused("empty(5)", x -> x.empty(5), NONE);
        Due.says(19, "NONE; -9.");
        refused("all(3)", x -> x.all(3), NONE);
        refused("all(-1)", x -> x.all(-1), NONE);
        Due.says(20, "NONE: king (FALLEN ones, too), no i-th; -9 (ahead of no i-th).");
        refused("quiet(0, 5, false)", x -> x.quiet(0, 5, false), NONE);
        refused("quiet(0, 4, false)", x -> x.quiet(0, 4, false), NONE);
        refused("quiet(-1, 4, true)", x -> x.quiet(-1, 4, true), NONE);
        refused("quiet(203, 0, true)", x -> x.quiet(203, 0, true), NONE);
        refused("quiet(MIN, 0, false)", x -> x.quiet(MIN, 0, false), NONE);
    }

    private static void warsOfRich() {
        Due.says(21, "NONE; BAD; STATE: one is FALLEN.");
        refused("lead(7, 4, 4)", x -> x.lead(7, 4, 4), NONE);
        refused("lead(7, 0, 1)", x -> x.lead(7, 0, 1), NONE);
        refused("lead(0, 5, 5)", x -> x.lead(0, 5, 5), NONE);
        refused("lead(0, 4, 5)", x -> x.lead(0, 4, 5), NONE);
        refused("lead(0, 4, 4)", x -> x.lead(0, 4, 4), BAD);
        refused("lead(0, 1, 1)", x -> x.lead(0, 1, 1), BAD);
        refused("lead(0, 4, 0)", x -> x.lead(0, 4, 0), STATE);
        refused("lead(0, 0, 4)", x -> x.lead(0, 0, 4), STATE);
        Due.says(22, "NONE.");
        refused("next(7)", x -> x.next(7), NONE);
        refused("next(-1)", x -> x.next(-1), NONE);
        Due.says(23, "NONE; STATE: FALLEN.");
        refused("edge(5)", x -> x.edge(5), NONE);
        refused("edge(4)", x -> x.edge(4), STATE);
        Due.says(25, "NONE.");
        refused("race(7)", x -> x.race(7), NONE);
        refused("race(-1)", x -> x.race(-1), NONE);
        Due.says(26, "NONE; STATE: it is not QUIET.");
        refused("few(1, 0)", x -> x.few(1, 0), STATE);
        refused("few(1, 2)", x -> x.few(1, 2), NONE);
        refused("few(7, 0)", x -> x.few(7, 0), NONE);
        refused("few(7, 2)", x -> x.few(7, 2), NONE);
        Due.says(27, "NONE.");
        refused("guarded(7)", x -> x.guarded(7), NONE);
        Due.says(28, "-1000: NONE; -1001: BAD; -1002: one is FALLEN.");
        refused("marry(7, 4, 4, 0)", x -> x.marry(7, 4, 4, 0), -1000);
        refused("marry(0, 4, 4, 2)", x -> x.marry(0, 4, 4, 2), -1000);
        refused("marry(0, 4, 5, 0)", x -> x.marry(0, 4, 5, 0), -1000);
        refused("marry(0, 4, 4, 1)", x -> x.marry(0, 4, 4, 1), -1001);
        refused("marry(0, 4, 0, 1)", x -> x.marry(0, 4, 0, 1), -1002);
        refused("marry(0, 0, 4, 0)", x -> x.marry(0, 0, 4, 0), -1002);
    }

    private static void actsOfRich() {
        Due.says(30, "NONE.");
        refused("trace(7)", x -> x.trace(7), NONE);
        refused("trace(-1)", x -> x.trace(-1), NONE);
        Due.says(31, "NONE: standing, k; -6: it is of another KIND.");
        refused("as(7, 7)", x -> x.as(7, 7), NONE);
        refused("as(1, 7)", x -> x.as(1, 7), NONE);
        refused("as(7, 1)", x -> x.as(7, 1), NONE);
        refused("as(1, 2)", x -> x.as(1, 2), -6);
        Due.says(34, "NONE.");
        refused("count(7)", x -> x.count(7), NONE);
        refused("count(-1)", x -> x.count(-1), NONE);
        // the one refusal that changes something: there is no TRACE then, and else all is as it was
        Due.says(29, "0, and no TRACE then: no such STANDING, act.");
        KingsBalance called = rich(), other = rich();
        Due.is("act(7, 0, 5)", called.act(7, 0, 5), 0);
        Due.is("act(0, 3, 5)", other.act(0, 3, 5), 0);
        Look.same("act(7, 0, 5)", called, other);
        called = rich();
        Due.is("act(7, 0, 5)", called.act(7, 0, 5), 0);
        Due.is("act(4, 2, 5)", called.act(4, 2, 5), rich().act(4, 2, 5));
        Look.same("act(7, 0, 5), act(4, 2, 5)", called, rich());
        Due.says(8, "THE TAPE, which is empty then (by a FAULT, too)");
        called = unimaged();
        Due.is("world() of less and a blank", called.world(), -15);
        Due.is("feed of 5 bytes", called.feed(0x6c65737320L, 5), 5);
        Look.same("world() by a FAULT", called, unimaged());
    }

    private static void withoutImage() {
        Due.says(33, "STATE: there is none.");
        refused("undo()", x -> x.undo(), STATE);
    }

    /** What only tells something changes nothing. */
    private static void reads() {
        Due.says(13, "Nothing is promised beyond the answers and state changes described above");
        KingsBalance x = scene.get();
        for (int s = 0; s < 7; s++) {
            for (int what = 0; what < 2; what++) {
                x.comes(s, 0, 1, what);
                x.war(s, 3, 2, what + 1);
                x.dares(s, 3, what);
                x.few(s, what);
                x.marry(s, 3, 1, what);
            }
            x.first(s);
            x.guarded(s);
        }
        for (int k = 0; k < 3; k++) {
            x.empty(k);
            x.edge(k);
        }
        for (int what = 0; what < 3; what++) x.all(what);
        x.quiet(1, 0, true);
        x.quiet(1, 3, false);
        x.keeps(1, 2, 3);
        x.courted();
        Look.same("all that only tells something", x, scene.get());
    }

    private static void ofFull() {
        Due.says(2, "7 at most");
        refused("king(5, 5)", x -> x.king(5, 5), FULL);
        refused("king(100, 5)", x -> x.king(100, 5), BAD);
        refused("king(5, 41)", x -> x.king(5, 41), BAD);
        refused("king(-1, -1)", x -> x.king(-1, -1), BAD);
        Due.says(7, "BAD: n not 1 .. 8; FULL.");
        refused("feed(32, 1)", x -> x.feed(32, 1), FULL);
        refused("feed(32, 8)", x -> x.feed(32, 8), FULL);
        refused("feed(32, 0)", x -> x.feed(32, 0), BAD);
        refused("feed(32, 9)", x -> x.feed(32, 9), BAD);
        refused("feed(32, MAX)", x -> x.feed(32, MAX), BAD);
        refused("feed(32, MIN)", x -> x.feed(32, MIN), BAD);
        Due.says(11, "8 at most");
        refused("standing(0, 0)", x -> x.standing(0, 0), FULL);
        refused("standing(6, 9)", x -> x.standing(6, 9), FULL);
        refused("standing(6, 10)", x -> x.standing(6, 10), BAD);
        refused("standing(7, 9)", x -> x.standing(7, 9), NONE);
        refused("standing(7, 10)", x -> x.standing(7, 10), NONE);
        Due.says(19, "6 at most, else -9");
        refused("all(0)", x -> x.all(0), -9);
        refused("all(1)", x -> x.all(1), -9);
        refused("all(2)", x -> x.all(2), -9);
        refused("all(3)", x -> x.all(3), NONE);
        Due.says(20, "-9 (ahead of no i-th)");
        refused("quiet(0, 0, false)", x -> x.quiet(0, 0, false), -9);
        refused("quiet(-1, 6, true)", x -> x.quiet(-1, 6, true), -9);
        refused("quiet(MAX, 6, true)", x -> x.quiet(MAX, 6, true), -9);
        refused("quiet(0, 7, true)", x -> x.quiet(0, 7, true), NONE);
        refused("quiet(-1, -1, true)", x -> x.quiet(-1, -1, true), NONE);
        Due.says(26, "NONE; STATE: it is not QUIET.");
        refused("few(1, 0)", x -> x.few(1, 0), STATE);
        refused("few(8, 0)", x -> x.few(8, 0), NONE);
        Due.says(12, "NONE; BAD.");
        refused("block(8, 0, 0)", x -> x.block(8, 0, 0), NONE);
        refused("block(7, 7, 0)", x -> x.block(7, 7, 0), NONE);
        refused("block(7, 6, 7)", x -> x.block(7, 6, 7), BAD);
        Due.says(21, "NONE; BAD; STATE: one is FALLEN.");
        refused("lead(8, 0, 1)", x -> x.lead(8, 0, 1), NONE);
        refused("lead(7, 7, 7)", x -> x.lead(7, 7, 7), NONE);
        refused("lead(7, 6, 6)", x -> x.lead(7, 6, 6), BAD);
    }

    private static void ofNothing() {
        Due.says(1, "No KINGS.");
        refused("of(0, 0)", x -> x.of(0, 0), NONE);
        refused("arm(0, 0)", x -> x.arm(0, 0), NONE);
        refused("arm(0, 100)", x -> x.arm(0, 100), NONE);
        refused("worth(0, 1, 1)", x -> x.worth(0, 1, 1), NONE);
        refused("worth(0, 0, 1)", x -> x.worth(0, 0, 1), NONE);
        refused("pact(0, 1, 1)", x -> x.pact(0, 1, 1), NONE);
        refused("pact(0, 0, 4)", x -> x.pact(0, 0, 4), NONE);
        refused("world()", x -> x.world(), -10);
        refused("cost(0, 1)", x -> x.cost(0, 1), NONE);
        refused("cost(0, 0)", x -> x.cost(0, 0), NONE);
        refused("force(0, 0)", x -> x.force(0, 0), NONE);
        refused("force(0, 41)", x -> x.force(0, 41), NONE);
        refused("block(0, 0, 0)", x -> x.block(0, 0, 0), NONE);
        refused("comes(0, 0, 0, 0)", x -> x.comes(0, 0, 0, 0), NONE);
        refused("war(0, 0, 1, 0)", x -> x.war(0, 0, 1, 0), NO);
        refused("dares(0, 0, 0)", x -> x.dares(0, 0, 0), NONE);
        refused("first(0)", x -> x.first(0), NONE);
        refused("keeps(0, 0, 0)", x -> x.keeps(0, 0, 0), NONE);
        refused("empty(0)", x -> x.empty(0), NONE);
        refused("all(0)", x -> x.all(0), 1);
        refused("all(1)", x -> x.all(1), 1);
        refused("all(2)", x -> x.all(2), 1);
        refused("all(3)", x -> x.all(3), NONE);
        refused("quiet(0, 0, true)", x -> x.quiet(0, 0, true), NONE);
        refused("lead(0, 0, 0)", x -> x.lead(0, 0, 0), NONE);
        refused("next(0)", x -> x.next(0), NONE);
        refused("edge(0)", x -> x.edge(0), NONE);
        refused("courted()", x -> x.courted(), -5);
        refused("race(0)", x -> x.race(0), NONE);
        refused("few(0, 0)", x -> x.few(0, 0), NONE);
        refused("guarded(0)", x -> x.guarded(0), NONE);
        refused("marry(0, 0, 0, 0)", x -> x.marry(0, 0, 0, 0), -1000);
        refused("act(0, 0, 5)", x -> x.act(0, 0, 5), 0);
        refused("trace(0)", x -> x.trace(0), NONE);
        refused("as(0, 0)", x -> x.as(0, 0), NONE);
        refused("undo()", x -> x.undo(), STATE);
        refused("count(7)", x -> x.count(7), NONE);
    }
}
