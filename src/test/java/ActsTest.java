/** Promises 29 to 34: acts, the image. */
public final class ActsTest {
    private static final int NONE = KingsBalance.NONE, BAD = KingsBalance.BAD, STATE = KingsBalance.STATE;

    public static void main(String[] args) {
        promise29();
        promise29Wraps();
        promise29Refusals();
        promise30();
        promise31();
        promise32();
        promise33();
        promise33Bounds();
        promise34();
        Due.end("ActsTest");
    }

    /** One standing of each kind: its number is its kind, its v two more. */
    private static KingsBalance standings() {
        KingsBalance x = new KingsBalance();
        for (int kind = 0; kind < 7; kind++) x.standing(kind, kind + 2);
        return x;
    }

    private static void act(KingsBalance x, int s, int act, int arg, int due, int... bodies) {
        String call = "act(" + s + ", " + act + ", " + arg + ")";
        Due.is(call, x.act(s, act, arg), due);
        Due.is("count(5) of " + call, x.count(5), bodies.length);
        for (int i = 0; i < bodies.length; i++) Due.is("trace(" + i + ") of " + call, x.trace(i), bodies[i]);
        Due.is("trace behind the last of " + call, x.trace(bodies.length), NONE);
    }

    private static void promise29() {
        KingsBalance x = standings();
        act(x, 0, 0, 5, 5, 1);
        act(x, 0, 1, 5, 3, 2, 1);
        act(x, 0, 2, 5, 6, 3, 2, 1);
        act(x, 1, 0, 5, 6, 1);
        act(x, 1, 1, 5, 13, 11, 2, 1);
        act(x, 1, 2, 5, 26, 3, 11, 2, 1);
        act(x, 2, 0, 5, -7, 21, 1);
        act(x, 2, 1, 5, -11, 2, 21, 1);
        act(x, 2, 2, 5, -22, 3, 2, 21, 1);
        act(x, 3, 0, 5, 8, 1);
        act(x, 3, 1, 5, 3, 2, 1);
        act(x, 3, 2, 5, 1, 31, 3, 2, 1);
        act(x, 4, 0, 5, -9, 21, 1);
        act(x, 4, 1, 5, -15, 2, 21, 1);
        act(x, 4, 2, 5, -34, 41, 3, 2, 21, 1, 21, 1);
        act(x, 5, 0, 5, 15, 51, 1);
        act(x, 5, 1, 5, 8, 2, 51, 1);
        act(x, 5, 2, 5, 23, 31, 3, 2, 51, 1);
        act(x, 6, 0, 5, 11, 1);
        act(x, 6, 1, 5, 11, 61, 2, 1);
        act(x, 6, 2, 5, 17, 31, 3, 61, 2, 1);
    }

    private static void promise29Wraps() {
        KingsBalance x = standings();
        int max = Integer.MAX_VALUE, min = Integer.MIN_VALUE;
        act(x, 1, 0, max, min, 1);
        act(x, 0, 1, min, max - 1, 2, 1);
        act(x, 0, 2, max, -6, 3, 2, 1);
        act(x, 1, 1, max, max - 4, 11, 2, 1);
        act(x, 2, 0, max - 1, min, 21, 1);
        act(x, 4, 2, min, -24, 41, 3, 2, 21, 1, 21, 1);
        act(x, 6, 1, max, min + 5, 61, 2, 1);
    }

    private static void promise29Refusals() {
        KingsBalance x = standings();
        x.act(4, 2, 5);
        act(x, 7, 0, 5, 0);
        x.act(4, 2, 5);
        act(x, -1, 0, 5, 0);
        x.act(4, 2, 5);
        act(x, 0, 3, 5, 0);
        x.act(4, 2, 5);
        act(x, 0, -1, 5, 0);
        act(x, 0, Integer.MIN_VALUE, 5, 0);
    }

    private static void promise30() {
        KingsBalance x = standings();
        Due.is("trace(0) ahead of an act", x.trace(0), NONE);
        x.act(4, 2, 1);
        Due.is("trace(6)", x.trace(6), 1);
        Due.is("trace(7)", x.trace(7), NONE);
        Due.is("trace(-1)", x.trace(-1), NONE);
        Due.is("trace(MAX)", x.trace(Integer.MAX_VALUE), NONE);
        Due.is("trace(MIN)", x.trace(Integer.MIN_VALUE), NONE);
        x.act(6, 0, 1);
        Due.is("trace(0) of the latest", x.trace(0), 1);
        Due.is("trace(1) of the latest", x.trace(1), NONE);
    }

    private static void promise31() {
        KingsBalance x = standings();
        int[] above = {-1, 0, 0, 0, 2, 3, 3};
        for (int s = 0; s < 7; s++) {
            for (int k = 0; k < 7; k++) {
                boolean under = k == 0 || k == s || above[s] == k;
                Due.is("as(" + s + ", " + k + ")", x.as(s, k), under ? s + 2 : -6);
            }
        }
        Due.is("as(7, 0)", x.as(7, 0), NONE);
        Due.is("as(-1, 0)", x.as(-1, 0), NONE);
        Due.is("as(0, 7)", x.as(0, 7), NONE);
        Due.is("as(0, -1)", x.as(0, -1), NONE);
    }

    private static void promise32() {
        KingsBalance x = new KingsBalance();
        Due.is("image() of nothing", x.image(), 0);
        x.king(5, 5);
        x.king(6, 6);
        Due.is("undo() to nothing", x.undo(), 0);
        Due.is("count(0)", x.count(0), 0);
        x.king(7, 7);
        x.king(1, 8);
        x.king(2, 9);
        x.standing(1, 0);
        x.lead(0, 0, 1);
        Due.is("image() counts the fallen", x.image(), 3);
        x.arm(0, 50);
        Due.is("image() anew", x.image(), 3);
        x.arm(0, 60);
        Due.is("undo()", x.undo(), 3);
        Due.is("of(0, 0) of the newest image", x.of(0, 0), 50);
    }

    /** All that an image keeps, seen from outside: three kings, two worlds, some bytes, two standings. */
    private static KingsBalance scene() {
        KingsBalance x = Play.kings(20, 3, 10, 7, 4, 9);
        Play.world(x, "take 3");
        Play.world(x, "cost 5 m>0;word 4;less 100;take 50");
        Play.feed(x, "less 20");
        x.worth(1, 0, 33);
        x.pact(2, 1, 1);
        x.standing(2, 4);
        x.standing(5, 2);
        x.block(0, 2, 1);
        return x;
    }

    private static void sceneStands(String when, KingsBalance x) {
        int[] counts = {3, 3, 2, 2, 7};
        for (int what = 0; what < 5; what++) Due.is(when + ": count(" + what + ")", x.count(what), counts[what]);
        Due.is(when + ": count(6)", x.count(6), 0);
        int[][] of = {{20, 3, 0, 0}, {10, 7, 0, 1}, {4, 9, 0, 2}};
        for (int k = 0; k < 3; k++) {
            for (int what = 0; what < 4; what++) Due.is(when + ": of(" + k + ", " + what + ")", x.of(k, what), of[k][what]);
        }
        Due.is(when + ": cost(0, 1)", x.cost(0, 1), 5);
        Due.is(when + ": force(0, 7)", x.force(0, 7), 19600);
        Due.is(when + ": comes(0, 0, 1, 1)", x.comes(0, 0, 1, 1), 0b110);
        Due.is(when + ": comes(1, 0, 1, 1)", x.comes(1, 0, 1, 1), 0b110);
        Due.is(when + ": comes(1, 0, 2, 1)", x.comes(1, 0, 2, 1), 0b110);
        Due.is(when + ": war(0, 0, 1, 2)", x.war(0, 0, 1, 2), 28);
        Due.is(when + ": keeps(2, 1, 0)", x.keeps(2, 1, 0), 0);
        Due.is(when + ": as(0, 2)", x.as(0, 2), 4);
        Due.is(when + ": as(1, 5)", x.as(1, 5), 2);
        Due.is(when + ": as(2, 0)", x.as(2, 0), NONE);
    }

    private static void upset(KingsBalance x) {
        x.world();
        Play.world(x, "less 900;cost 6 s>0");
        Play.feed(x, "word 7;take 9");
        x.arm(0, 70);
        x.worth(1, 0, 44);
        x.worth(0, 2, 3);
        x.pact(2, 1, 3);
        x.pact(1, 2, 2);
        x.block(0, 2, 6);
        x.block(1, 1, 0);
        x.king(9, 9);
        x.standing(6, 1);
        x.lead(0, 0, 1);
        x.lead(0, 0, 2);
    }

    private static void promise33() {
        KingsBalance x = scene();
        sceneStands("at first", x);
        Due.is("undo() ahead of an image", x.undo(), STATE);
        sceneStands("behind STATE", x);
        Due.is("image()", x.image(), 3);
        upset(x);
        x.act(2, 1, 5);
        Due.is("count(1) upset", x.count(1), 2);
        Due.is("of(1, 3) upset", x.of(1, 3), 0);
        Due.is("undo()", x.undo(), 3);
        sceneStands("behind undo", x);
        // THE TRACE is none of it
        Due.is("count(5) behind undo", x.count(5), 3);
        Due.is("trace(0) behind undo", x.trace(0), 61);
        upset(x);
        Due.is("undo() again: THE IMAGE stays", x.undo(), 3);
        sceneStands("behind undo again", x);
        Due.is("world() of the bytes", x.world(), 3);
        Due.is("force(0, 7) by that world", x.force(0, 7), 19920);
        Due.is("undo() the third time", x.undo(), 3);
        sceneStands("behind the third undo", x);
    }

    private static void promise33Bounds() {
        KingsBalance x = scene();
        x.image();
        x.king(1, 1);
        x.worth(3, 0, 77);
        x.worth(0, 3, 78);
        x.pact(3, 0, 2);
        x.pact(0, 3, 2);
        x.block(0, 3, 1);
        x.standing(1, 0);
        x.block(2, 0, 5);
        x.block(2, 3, 6);
        x.undo();
        // what comes anew is as new
        Due.is("king(2, 2)", x.king(2, 2), 3);
        Due.is("worth(3, 0, 1)", x.worth(3, 0, 1), 10);
        Due.is("worth(0, 3, 1)", x.worth(0, 3, 1), 10);
        Due.is("pact(3, 0, 1)", x.pact(3, 0, 1), 0);
        Due.is("pact(0, 3, 1)", x.pact(0, 3, 1), 0);
        Due.is("block(0, 3, 2)", x.block(0, 3, 2), 3);
        Due.is("standing(4, 3)", x.standing(4, 3), 2);
        Due.is("block(2, 0, 1)", x.block(2, 0, 1), 0);
        Due.is("block(2, 3, 1)", x.block(2, 3, 1), 3);
        Due.is("as(2, 2)", x.as(2, 2), 3);
        // a change behind the undo does not come into the image
        x.undo();
        x.arm(1, 77);
        x.block(0, 0, 6);
        x.feed(65, 1);
        x.undo();
        sceneStands("behind changes", x);
    }

    private static void promise34() {
        KingsBalance x = Play.kings(20, 0, 10, 0, 9, 0);
        x.standing(1, 0);
        x.standing(4, 0);
        Play.world(x, "take 1");
        Play.world(x, "take");
        Play.feed(x, "word ");
        x.lead(0, 0, 1);
        x.lead(0, 2, 0);
        x.act(1, 2, 3);
        int[] due = {3, 2, 1, 2, 5, 7, 2};
        for (int what = 0; what < 7; what++) Due.is("count(" + what + ")", x.count(what), due[what]);
        Due.is("count(7)", x.count(7), NONE);
        Due.is("count(-1)", x.count(-1), NONE);
        x.lead(0, 0, 2);
        Due.is("count(1)", x.count(1), 1);
        Due.is("count(6)", x.count(6), 3);
        // refused calls change nothing
        Due.is("lead(0, 0, 2)", x.lead(0, 0, 2), STATE);
        Due.is("king(100, 0)", x.king(100, 0), BAD);
        Due.is("count(0)", x.count(0), 3);
        Due.is("count(6)", x.count(6), 3);
        x.act(9, 0, 0);
        Due.is("count(5)", x.count(5), 0);
    }
}
