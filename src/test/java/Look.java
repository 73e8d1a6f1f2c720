import java.util.ArrayList;
import java.util.List;

/** All that an object shows from outside, told by some 400 calls; the last ones of them change it. */
final class Look {
    private final KingsBalance x;
    private final List<String> calls = new ArrayList<>();
    private final List<Long> answers = new ArrayList<>();

    private Look(KingsBalance x) {
        this.x = x;
        counts();
        reads();
        rows();
        tape();
        add("undo()", x.undo());
        counts();
        for (int land = 0; land < 7; land++) add("worth(" + land + ", 0, 9)", x.worth(land, 0, 9));
        for (int king = 0; king < 7; king++) add("pact(" + king + ", 1, 0)", x.pact(king, 1, 0));
        for (int s = 0; s < 8; s++) add("block(" + s + ", 2, 0)", x.block(s, 2, 0));
    }

    /** Both objects, of which one was called, show the same. */
    static void same(String call, KingsBalance called, KingsBalance untouched) {
        Look one = new Look(called), other = new Look(untouched);
        for (int i = 0; i < one.calls.size(); i++) {
            Due.is("behind " + call + ", look " + i + ": " + one.calls.get(i), one.answers.get(i), other.answers.get(i));
        }
    }

    private void add(String call, long answer) {
        calls.add(call);
        answers.add(answer);
    }

    private void counts() {
        for (int what = 0; what < 7; what++) add("count(" + what + ")", x.count(what));
        for (int king = 0; king < 7; king++) {
            for (int what = 0; what < 4; what++) add("of(" + king + ", " + what + ")", x.of(king, what));
        }
    }

    private void reads() {
        for (int i = 0; i < 8; i++) add("trace(" + i + ")", x.trace(i));
        for (int s = 0; s < 8; s++) {
            for (int k = 0; k < 7; k++) add("as(" + s + ", " + k + ")", x.as(s, k));
        }
        for (int king = 0; king < 7; king++) {
            for (int other = 0; other < 7; other++) {
                if (king != other) add("cost(" + king + ", " + other + ")", x.cost(king, other));
            }
            add("force(" + king + ", 0)", x.force(king, 0));
            add("keeps(" + king + ")", x.keeps(king, (king + 1) % 7, (king + 2) % 7));
        }
    }

    private void rows() {
        for (int a = 0; a < 7; a++) {
            for (int b = 0; b < 7; b++) {
                if (a == b) continue;
                add("worth(" + a + ", " + b + ", 1)", x.worth(a, b, 1));
                add("pact(" + a + ", " + b + ", 0)", x.pact(a, b, 0));
            }
            for (int s = 0; s < 8; s++) add("block(" + s + ", " + a + ", 0)", x.block(s, a, 0));
        }
    }

    private void tape() {
        add("lead(1, 0, 1)", x.lead(1, 0, 1));
        add("of(0, 0)", x.of(0, 0));
        add("of(1, 0)", x.of(1, 0));
        add("world()", x.world());
        add("force(0, 40)", x.force(0, 40));
        add("cost(0, 1)", x.cost(0, 1));
    }
}
