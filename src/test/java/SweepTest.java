import java.lang.reflect.InvocationTargetException;
import java.lang.reflect.Method;
import java.util.ArrayList;
import java.util.Arrays;
import java.util.List;
import java.util.Map;
import java.util.TreeMap;

/** Every call with all rows of arguments at and about their bounds, on empty, full and other objects, by the model. */
public final class SweepTest {
    private static final int MIN = Integer.MIN_VALUE, MAX = Integer.MAX_VALUE, MOST_CALLS = 480;

    /** What the arguments of each call are; K and S are KINGS and STANDINGS, a number is the greatest value. */
    private static final Map<String, String> CALLS = new TreeMap<>();

    static {
        String[] lines = {"king 99 40", "of K 3", "arm K 99", "worth K K 99", "pact K K 3", "feed W 8", "cost K K", "force K 40",
            "standing 6 9", "block S K 6", "comes S K K 1", "war S K K 2", "dares S K 1", "first S", "keeps K K K", "empty K",
            "all 2", "quiet 4 K B", "lead S K K", "next S", "edge K", "courted", "race S", "few S 1", "guarded S",
            "marry S K K 1", "act S 2 X", "trace 6", "as S 6", "image", "undo", "count 6", "world"};
        for (String line : lines) CALLS.put(line.split(" ")[0], line);
    }

    private final String name;
    private final List<String> steps = new ArrayList<>();
    private final List<Object[]> stepArgs = new ArrayList<>();
    private KingsBalance x;
    private Model model;
    private int calls;

    private SweepTest(String name) {
        this.name = name;
    }

    public static void main(String[] args) throws ReflectiveOperationException {
        Due.is("calls swept", CALLS.size(), 33);
        empty();
        small();
        sixOfSeven();
        full();
        Due.end("SweepTest");
    }

    private static void empty() throws ReflectiveOperationException {
        Due.says(1, "No KINGS.");
        new SweepTest("empty").sweep(0, 0);
        SweepTest t = new SweepTest("STANDINGS alone");
        for (int s = 0; s < 8; s++) t.call("standing", s % 7, s);
        t.sweep(0, 8);
    }

    private static void small() throws ReflectiveOperationException {
        Due.says(2, "KINGS are numbered from 0 on, 7 at most");
        SweepTest t = new SweepTest("one KING");
        t.call("king", 0, 40);
        t.call("standing", 2, 0);
        t.sweep(1, 1);
        t = new SweepTest("two KINGS, one FALLEN");
        t.call("king", 99, 0);
        t.call("king", 98, 40);
        t.call("standing", 6, 9);
        t.call("pact", 0, 1, 2);
        t.call("lead", 0, 0, 1);
        t.sweep(2, 1);
    }

    private static void sixOfSeven() throws ReflectiveOperationException {
        Due.says(19, "6 at most, else -9");
        SweepTest t = new SweepTest("seven KINGS, one FALLEN");
        t.court();
        t.call("lead", 1, 5, 3);
        t.call("image");
        t.call("act", 4, 2, 7);
        t.sweep(7, 8);
    }

    private static void full() throws ReflectiveOperationException {
        Due.says(7, "120 at most");
        SweepTest t = new SweepTest("full");
        t.court();
        t.call("image");
        for (int i = 0; i < 15; i++) t.call("feed", 0x776f726420313b77L, 8);
        t.call("act", 5, 2, 7);
        t.sweep(7, 8);
    }

    /** Seven KINGS, eight STANDINGS, a WORLD of ten clauses. */
    private void court() {
        int[] strengths = {0, 12, 30, 7, 7, 99, 41};
        for (int k = 0; k < 7; k++) call("king", strengths[k], k == 6 ? 40 : 4 * k);
        for (int s = 0; s < 8; s++) call("standing", s % 7, (s + 5) % 10);
        String text = "less 9;less 90;word 1;word 2;take 1;take 40;cost 1 k=1;cost 2 m>9;cost 3 s<9&o>9;cost 1 !o<8";
        for (int from = 0; from < text.length(); from += 8) {
            String part = text.substring(from, Math.min(text.length(), from + 8));
            long w = 0;
            for (char sign : part.toCharArray()) w = w << 8 | sign;
            call("feed", w, part.length());
        }
        call("world");
        for (int k = 0; k < 7; k++) {
            call("pact", k, (k + 1) % 7, 1);
            call("pact", k, (k + 2) % 7, 2);
            call("pact", k, (k + 4) % 7, k % 4);
            call("block", 2, k, k / 2);
            call("block", 4, k, k % 3);
        }
    }

    /** One more call that makes the object what is swept. */
    private void call(String call, Object... args) {
        steps.add(call);
        stepArgs.add(args);
    }

    private void anew() throws ReflectiveOperationException {
        x = new KingsBalance();
        model = new Model();
        calls = 0;
        for (int i = 0; i < steps.size(); i++) both(steps.get(i), stepArgs.get(i));
    }

    private void sweep(int kings, int standings) throws ReflectiveOperationException {
        for (String line : CALLS.values()) {
            String[] parts = line.split(" ");
            List<Object[]> rows = new ArrayList<>();
            rows.add(new Object[0]);
            for (int i = 1; i < parts.length; i++) rows = longer(rows, values(parts[i], kings, standings));
            boolean changes = "king arm worth pact feed standing block lead next race image undo world".contains(parts[0]);
            anew();
            for (Object[] row : rows) {
                if (changes || calls > MOST_CALLS) anew();
                both(parts[0], row);
                if (changes) behind(kings);
            }
        }
    }

    /** Some of what can be seen of a change. */
    private void behind(int kings) throws ReflectiveOperationException {
        for (int what = 0; what < 7; what++) both("count", what);
        for (int k = 0; k <= kings; k++) both("of", k, 0);
        both("first", 1);
        both("comes", 2, 0, 1, 1);
    }

    private static List<Object[]> longer(List<Object[]> rows, Object[] values) {
        List<Object[]> all = new ArrayList<>();
        for (Object[] row : rows) {
            for (Object value : values) {
                Object[] more = Arrays.copyOf(row, row.length + 1);
                more[row.length] = value;
                all.add(more);
            }
        }
        return all;
    }

    private static Object[] values(String role, int kings, int standings) {
        switch (role) {
            case "K": return kings < 2 ? new Object[] {MIN, -1, 0, 1, 7, 32, MAX} : new Object[] {MIN, -1, 0, 1, 3, kings - 1, kings, 32, MAX};
            case "S": return standings < 2 ? new Object[] {MIN, -1, 0, 1, MAX} : new Object[] {MIN, -1, 1, 2, 4, 5, 6, 7, 8, 32, MAX};
            case "W": return new Object[] {Long.MIN_VALUE, 0L, 32L, Long.MAX_VALUE};
            case "B": return new Object[] {false, true};
            case "X": return new Object[] {MIN, -1, 0, 1, MAX};
            default:
                int most = Integer.parseInt(role);
                return most < 4 ? new Object[] {MIN, -1, 0, 1, most, most + 1, MAX} : new Object[] {MIN, -1, 0, 1, 3, most, most + 1, MAX};
        }
    }

    private void both(String call, Object... args) throws ReflectiveOperationException {
        calls++;
        long got = answer(KingsBalance.class, x, call, args), want = answer(Model.class, model, call, args);
        Due.is(name + ": " + call + Arrays.toString(args), got, want);
    }

    private static long answer(Class<?> of, Object on, String call, Object[] args) throws ReflectiveOperationException {
        for (Method m : of.getDeclaredMethods()) {
            boolean own = m.getName().equals(call) && m.getParameterCount() == args.length
                && (m.getReturnType() == int.class || m.getReturnType() == long.class);
            if (!own) continue;
            try {
                m.setAccessible(true);
                return ((Number) m.invoke(on, args)).longValue();
            } catch (InvocationTargetException e) {
                throw new IllegalStateException(call + Arrays.toString(args) + " threw " + e.getCause(), e);
            }
        }
        throw new IllegalStateException("there is no " + call);
    }
}
