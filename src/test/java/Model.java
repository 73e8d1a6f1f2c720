import java.util.ArrayList;
import java.util.Arrays;
import java.util.HashMap;
import java.util.List;
import java.util.Map;
import java.util.TreeSet;
import java.util.function.BiPredicate;
import java.util.regex.Matcher;
import java.util.regex.Pattern;

/** The document once more, written as far from the class as can be: sets, maps, texts, and no care for speed. */
final class Model {
    private static final int NONE = -1, BAD = -2, STATE = -3, FULL = -4;
    private static final Pattern AMOUNT = Pattern.compile("(word|less|take) (0|[1-9][0-9]{0,2})");
    private static final Pattern COST = Pattern.compile("cost (0|[1-9][0-9]{0,2}) ([^ ]*)", Pattern.DOTALL);
    private static final Pattern TEST = Pattern.compile("([msok])([<=>])(0|[1-9][0-9]{0,2})");
    private static final int[] ABOVE = {-1, 0, 0, 0, 2, 3, 3};

    private static final class King {
        int strength, place, owner;
        boolean fallen;

        King copy() {
            King k = new King();
            k.strength = strength;
            k.place = place;
            k.owner = owner;
            k.fallen = fallen;
            return k;
        }
    }

    private static final class Stand {
        int kind, v, number;
        Map<Integer, Integer> block = new HashMap<>();

        Stand copy() {
            Stand s = new Stand();
            s.kind = kind;
            s.v = v;
            s.number = number;
            s.block = new HashMap<>(block);
            return s;
        }

        int blockOf(int king) {
            return block.getOrDefault(king, king);
        }
    }

    private static final class All {
        List<King> kings = new ArrayList<>();
        Map<Integer, Integer> worth = new HashMap<>();
        Map<Integer, Integer> pact = new HashMap<>();
        List<Stand> stands = new ArrayList<>();
        String tape = "";
        String world = "";
        int worlds, wars;

        All copy() {
            All a = new All();
            for (King k : kings) a.kings.add(k.copy());
            a.worth.putAll(worth);
            a.pact.putAll(pact);
            for (Stand s : stands) a.stands.add(s.copy());
            a.tape = tape;
            a.world = world;
            a.worlds = worlds;
            a.wars = wars;
            return a;
        }
    }

    private All now = new All();
    private All image = null;
    private List<Integer> trace = new ArrayList<>();

    private boolean noKing(int k) {
        return k < 0 || k >= now.kings.size();
    }

    private boolean noStand(int s) {
        return s < 0 || s >= now.stands.size();
    }

    private boolean fallen(int k) {
        return now.kings.get(k).fallen;
    }

    private TreeSet<Integer> alive() {
        TreeSet<Integer> set = new TreeSet<>();
        for (int k = 0; k < now.kings.size(); k++) if (!fallen(k)) set.add(k);
        return set;
    }

    private static int bits(Iterable<Integer> set) {
        int bits = 0;
        for (int k : set) bits += 1 << k;
        return bits;
    }

    private int strength(int k) {
        return now.kings.get(k).strength;
    }

    private int miles(int k, int place) {
        return Math.abs(now.kings.get(k).place - place);
    }

    private int worthOf(int land, int king) {
        return now.worth.getOrDefault(land * 10 + king, 10);
    }

    private int pactOf(int king, int with) {
        return now.pact.getOrDefault(king * 10 + with, 0);
    }

    long king(int strength, int place) {
        if (strength < 0 || strength > 99 || place < 0 || place > 40) return BAD;
        if (now.kings.size() == 7) return FULL;
        King k = new King();
        k.strength = strength;
        k.place = place;
        k.owner = now.kings.size();
        now.kings.add(k);
        return k.owner;
    }

    long of(int king, int what) {
        if (noKing(king) || what < 0 || what > 3) return NONE;
        King k = now.kings.get(king);
        return new int[] {k.strength, k.place, k.fallen ? 1 : 0, k.owner}[what];
    }

    long arm(int king, int n) {
        if (noKing(king)) return NONE;
        if (n < 0 || n > 99) return BAD;
        if (fallen(king)) return STATE;
        int was = strength(king);
        now.kings.get(king).strength = n;
        return was;
    }

    long worth(int land, int king, int n) {
        if (noKing(land) || noKing(king)) return NONE;
        if (land == king || n < 0 || n > 99) return BAD;
        int was = worthOf(land, king);
        now.worth.put(land * 10 + king, n);
        return was;
    }

    long pact(int king, int with, int n) {
        if (noKing(king) || noKing(with)) return NONE;
        if (king == with || n < 0 || n > 3) return BAD;
        int was = pactOf(king, with);
        now.pact.put(king * 10 + with, n);
        return was;
    }

    long feed(long w, int n) {
        if (n < 1 || n > 8) return BAD;
        if (now.tape.length() + n > 120) return FULL;
        StringBuilder text = new StringBuilder();
        for (int i = 0; i < n; i++) {
            text.insert(0, (char) (w & 255));
            w >>= 8;
        }
        now.tape += text;
        return now.tape.length();
    }

    long world() {
        String text = now.tape;
        now.tape = "";
        int fault = fault(text);
        if (fault >= 0) return -10 - fault;
        now.world = text;
        return ++now.worlds;
    }

    /** The place behind the longest beginning that some ending makes a WORLD; -1 if the text is one. */
    static int fault(String text) {
        for (int n = 1; n <= text.length(); n++) {
            if (!canGoOn(text.substring(0, n))) return n - 1;
        }
        return isWorld(text) ? -1 : text.length();
    }

    private static boolean canGoOn(String text) {
        String clause = text.substring(text.lastIndexOf(';') + 1);
        for (String whole : new String[] {"cost 1 m=1", "word 1", "less 1", "take 1"}) {
            if (whole.startsWith(clause) && isWorld(text + whole.substring(clause.length()))) return true;
        }
        for (String end : new String[] {"", "1", "=1", "m=1", " m=1"}) {
            String ending = end;
            for (int i = 0; i <= 5; i++) {
                if (isWorld(text + ending)) return true;
                ending += ")";
            }
        }
        return false;
    }

    private static boolean isWorld(String text) {
        String[] clauses = text.split(";", -1);
        if (clauses.length > 10) return false;
        for (String clause : clauses) {
            if (AMOUNT.matcher(clause).matches()) continue;
            Matcher m = COST.matcher(clause);
            if (!m.matches() || !isE(m.group(2))) return false;
        }
        return true;
    }

    private static boolean isE(String text) {
        if (text.indexOf('T') >= 0) return false;
        String e = TEST.matcher(text).replaceAll("T");
        if (mostOpen(e) > 5) return false;
        for (String before = ""; !before.equals(e);) {
            before = e;
            e = e.replace("!T", "T").replace("(T)", "T").replaceAll("(?<!!)T&T", "T");
            if (!e.contains("&")) e = e.replaceAll("(?<!!)T\\|T", "T");
            else e = e.replaceAll("(?<![!&])T\\|T(?!&)", "T");
        }
        return e.equals("T");
    }

    private static int mostOpen(String e) {
        StringBuilder open = new StringBuilder();
        int most = 0;
        for (char c : e.toCharArray()) {
            if (c == '!' || c == '(') open.append(c);
            most = Math.max(most, open.length());
            if (c == ')' && open.length() > 0) open.setLength(open.length() - 1);
            if (c == 'T' || c == ')') while (open.toString().endsWith("!")) open.setLength(open.length() - 1);
        }
        return most;
    }

    /** Where a sign stands outside of all ( ), or -1. */
    private static int outer(String e, char sign) {
        int depth = 0;
        for (int i = 0; i < e.length(); i++) {
            if (e.charAt(i) == '(') depth++;
            if (e.charAt(i) == ')') depth--;
            if (e.charAt(i) == sign && depth == 0) return i;
        }
        return -1;
    }

    private boolean truth(String e, int king, int other) {
        int or = outer(e, '|');
        if (or >= 0) return truth(e.substring(0, or), king, other) | truth(e.substring(or + 1), king, other);
        int and = outer(e, '&');
        if (and >= 0) return truth(e.substring(0, and), king, other) & truth(e.substring(and + 1), king, other);
        if (e.startsWith("!")) return !truth(e.substring(1), king, other);
        if (e.startsWith("(")) return truth(e.substring(1, e.length() - 1), king, other);
        int left = Map.of('m', miles(king, now.kings.get(other).place), 's', strength(king), 'o', strength(other), 'k', king)
            .get(e.charAt(0));
        int right = Integer.parseInt(e.substring(2));
        return e.charAt(1) == '<' ? left < right : e.charAt(1) == '=' ? left == right : left > right;
    }

    private int lastOf(String word) {
        int n = 0;
        for (String clause : now.world.split(";")) if (clause.startsWith(word)) n = Integer.parseInt(clause.substring(5));
        return n;
    }

    private int costOf(int king, int other) {
        int sum = 0;
        for (String clause : now.world.split(";")) {
            if (!clause.startsWith("cost")) continue;
            String[] parts = clause.split(" ");
            if (truth(parts[2], king, other)) sum += Integer.parseInt(parts[1]);
        }
        return sum;
    }

    private int forceOf(int king, int place) {
        return Math.max(0, 1000 * strength(king) - lastOf("less") * miles(king, place));
    }

    long cost(int king, int other) {
        if (noKing(king) || noKing(other)) return NONE;
        return king == other ? BAD : costOf(king, other);
    }

    long force(int king, int place) {
        if (noKing(king)) return NONE;
        return place < 0 || place > 40 ? BAD : forceOf(king, place);
    }

    long standing(int kind, int v) {
        if (kind < 0 || kind > 6) return NONE;
        if (v < 0 || v > 9) return BAD;
        if (now.stands.size() == 8) return FULL;
        Stand s = new Stand();
        s.kind = kind;
        s.v = v;
        s.number = now.stands.size();
        now.stands.add(s);
        return s.number;
    }

    long block(int standing, int king, int n) {
        if (noStand(standing) || noKing(king)) return NONE;
        if (n < 0 || n > 6) return BAD;
        Stand s = now.stands.get(standing);
        int was = s.blockOf(king);
        s.block.put(king, n);
        return was;
    }

    /** Both sets, a's first. */
    private List<TreeSet<Integer>> sides(Stand s, int a, int b) {
        BiPredicate<Integer, Integer> none = (c, side) -> false;
        BiPredicate<Integer, Integer> rule;
        switch (s.kind) {
            case 0: rule = (c, side) -> c % 2 == side; break;
            case 1: rule = none; break;
            case 2: rule = (c, side) -> inSides(s, c, side, a, b); break;
            case 4:
                int own = 0, whole = 0;
                for (int c : alive()) {
                    whole += strength(c);
                    if (s.blockOf(c) == s.blockOf(a)) own += strength(c);
                }
                boolean feared = own * 2 > whole;
                rule = (c, side) -> feared && s.blockOf(c) != s.blockOf(a) ? side == 1 : inSides(s, c, side, a, b);
                break;
            case 5: rule = (c, side) -> b == s.v ? side == 1 : inWeb(c, side, a, b); break;
            case 6: rule = (c, side) -> inWeb(c, side, a, b) && costOf(c, side == 0 ? b : a) <= lastOf("word"); break;
            default: rule = (c, side) -> inWeb(c, side, a, b);
        }
        List<TreeSet<Integer>> both = List.of(new TreeSet<>(List.of(a)), new TreeSet<>(List.of(b)));
        for (int c : alive()) {
            for (int side = 0; side < 2; side++) if (c != a && c != b && rule.test(c, side)) both.get(side).add(c);
        }
        return both;
    }

    private boolean inSides(Stand s, int c, int side, int a, int b) {
        return s.blockOf(a) != s.blockOf(b) && s.blockOf(c) == s.blockOf(side == 0 ? a : b);
    }

    private boolean inWeb(int c, int side, int a, int b) {
        int withA = pactOf(c, a), withB = pactOf(c, b);
        if (withA == 3 || withB == 3) return false;
        boolean toA = withA == 2, toB = withB == 1 || withB == 2;
        return side == 0 ? toA && !toB : toB && !toA;
    }

    private int sum(TreeSet<Integer> side, int b) {
        int sum = 0;
        for (int c : side) sum += forceOf(c, now.kings.get(b).place);
        return sum;
    }

    private boolean wins(Stand s, int a, int b) {
        List<TreeSet<Integer>> both = sides(s, a, b);
        return sum(both.get(0), b) > sum(both.get(1), b);
    }

    private int gain(Stand s, int a, int b) {
        return wins(s, a, b) ? worthOf(b, a) - costOf(a, b) : -costOf(a, b) - worthOf(a, b);
    }

    private boolean darers(Stand s, int a, int b) {
        return a != b && !fallen(a) && !fallen(b) && gain(s, a, b) > 0;
    }

    private List<int[]> pairs(Stand s) {
        List<int[]> list = new ArrayList<>();
        for (int a : alive()) for (int b : alive()) if (darers(s, a, b)) list.add(new int[] {a, b});
        return list;
    }

    long comes(int standing, int a, int b, int what) {
        if (noStand(standing) || noKing(a) || noKing(b) || what < 0 || what > 1) return NONE;
        if (a == b) return BAD;
        if (fallen(a) || fallen(b)) return STATE;
        return bits(sides(now.stands.get(standing), a, b).get(what));
    }

    long war(int standing, int a, int b, int what) {
        if (noStand(standing) || noKing(a) || noKing(b) || what < 0 || what > 2) return Long.MIN_VALUE;
        if (a == b || fallen(a) || fallen(b)) return Long.MIN_VALUE;
        Stand s = now.stands.get(standing);
        return what == 2 ? gain(s, a, b) : sum(sides(s, a, b).get(what), b);
    }

    private TreeSet<Integer> dared(Stand s, int king, int what) {
        TreeSet<Integer> set = new TreeSet<>();
        for (int[] p : pairs(s)) if (p[what] == king) set.add(p[1 - what]);
        return set;
    }

    long dares(int standing, int king, int what) {
        if (noStand(standing) || noKing(king) || what < 0 || what > 1) return NONE;
        return bits(dared(now.stands.get(standing), king, what));
    }

    long first(int standing) {
        if (noStand(standing)) return NONE;
        List<int[]> list = pairs(now.stands.get(standing));
        return list.isEmpty() ? -5 : list.get(0)[0] * 10 + list.get(0)[1];
    }

    private boolean binds(int king, int d) {
        return pactOf(king, d) % 3 != 0;
    }

    long keeps(int king, int d, int e) {
        if (noKing(king) || noKing(d) || noKing(e)) return NONE;
        if (new TreeSet<>(Arrays.asList(king, d, e)).size() < 3) return BAD;
        if (fallen(king) || fallen(d) || fallen(e)) return STATE;
        return binds(king, d) && costOf(king, e) <= lastOf("word") ? 1 : 0;
    }

    long empty(int king) {
        if (noKing(king)) return NONE;
        TreeSet<Integer> set = new TreeSet<>();
        for (int d : alive()) {
            TreeSet<Integer> against = alive();
            against.removeAll(Arrays.asList(king, d));
            if (fallen(king) || d == king || !binds(king, d)) continue;
            if (against.stream().noneMatch(e -> costOf(king, e) <= lastOf("word"))) set.add(d);
        }
        return bits(set);
    }

    private void ways(List<Integer> kings, int at, int blocks, Stand s, List<Stand> found) {
        if (at == kings.size()) {
            found.add(s.copy());
            return;
        }
        for (int n = 0; n <= blocks; n++) {
            s.block.put(kings.get(at), n);
            ways(kings, at + 1, Math.max(blocks, n + 1), s, found);
        }
    }

    private List<Stand> ways(int what) {
        Stand s = new Stand();
        s.kind = 2;
        List<Stand> found = new ArrayList<>();
        ways(new ArrayList<>(alive()), 0, 0, s, found);
        if (what >= 1) found.removeIf(way -> !pairs(way).isEmpty());
        if (what >= 2) found.removeIf(way -> !steady(way));
        return found;
    }

    private boolean steady(Stand way) {
        TreeSet<Integer> blocks = new TreeSet<>();
        for (int c : alive()) blocks.add(way.blockOf(c));
        blocks.add(100);
        for (int c : alive()) {
            for (int n : blocks) {
                Stand other = way.copy();
                other.block.put(c, n);
                if (!dared(other, c, 0).isEmpty()) return false;
            }
        }
        return true;
    }

    long all(int what) {
        if (what < 0 || what > 2) return NONE;
        return alive().size() > 6 ? -9 : ways(what).size();
    }

    long quiet(int i, int king, boolean hold) {
        if (noKing(king) || fallen(king)) return NONE;
        if (alive().size() > 6) return -9;
        List<Stand> found = ways(hold ? 2 : 1);
        return i < 0 || i >= found.size() ? NONE : found.get(i).blockOf(king);
    }

    private boolean fight(Stand s, int a, int b) {
        List<TreeSet<Integer>> both = sides(s, a, b);
        int p = sum(both.get(0), b), q = sum(both.get(1), b), spoils = strength(b);
        boolean won = p > q;
        int big = Math.max(p, q), small = Math.min(p, q);
        for (int c : both.get(won ? 1 : 0)) now.kings.get(c).strength /= 2;
        for (int c : both.get(won ? 0 : 1)) {
            if (big > 0) now.kings.get(c).strength -= (long) strength(c) * small / (2L * big);
        }
        if (won) {
            King loser = now.kings.get(b), winner = now.kings.get(a);
            loser.strength = 0;
            loser.fallen = true;
            loser.owner = a;
            winner.strength = Math.min(99, winner.strength + lastOf("take") * spoils / 100);
        }
        now.wars++;
        return won;
    }

    long lead(int standing, int a, int b) {
        if (noStand(standing) || noKing(a) || noKing(b)) return NONE;
        if (a == b) return BAD;
        if (fallen(a) || fallen(b)) return STATE;
        return fight(now.stands.get(standing), a, b) ? 1 : 0;
    }

    long next(int standing) {
        if (noStand(standing)) return NONE;
        Stand s = now.stands.get(standing);
        int led = 0;
        while (led < 20 && !pairs(s).isEmpty()) {
            int[] p = pairs(s).get(0);
            fight(s, p[0], p[1]);
            led++;
        }
        return led;
    }

    private int turns(int king) {
        List<Integer> others = new ArrayList<>(alive());
        others.remove(Integer.valueOf(king));
        int whole = 0, n = 0;
        for (int c : alive()) whole += strength(c);
        for (int set = 0; set < 1 << others.size(); set++) {
            int sum = 0;
            for (int i = 0; i < others.size(); i++) sum += (set >> i) % 2 * strength(others.get(i));
            if (sum <= whole / 2.0 && sum + strength(king) > whole / 2.0) n++;
        }
        return n;
    }

    long edge(int king) {
        if (noKing(king)) return NONE;
        return fallen(king) ? STATE : turns(king);
    }

    long courted() {
        int best = -5, most = -1;
        for (int k : alive()) {
            int by = strength(k) == 0 ? 0 : turns(k) * 100 / strength(k);
            if (by > most) best = k;
            most = Math.max(most, by);
        }
        return best;
    }

    long race(int standing) {
        if (noStand(standing)) return NONE;
        for (int rounds = 0;; rounds++) {
            boolean changed = false;
            for (int k : alive()) {
                if (rounds == 30 || strength(k) == 99 || dared(now.stands.get(standing), k, 1).isEmpty()) continue;
                now.kings.get(k).strength++;
                changed = true;
            }
            if (!changed) return rounds;
        }
    }

    long few(int standing, int what) {
        if (noStand(standing) || what < 0 || what > 1) return NONE;
        Stand s = now.stands.get(standing);
        if (!pairs(s).isEmpty()) return STATE;
        All before = now;
        for (int i = 2; i <= 61; i++) {
            int change = i % 2 == 0 ? -(i / 2) : i / 2;
            for (int k : alive()) {
                int n = strength(k) + change;
                if (n < 0 || n > 99) continue;
                now = before.copy();
                now.kings.get(k).strength = n;
                boolean upset = !pairs(s).isEmpty();
                now = before;
                if (upset) return what == 0 ? change : k;
            }
        }
        return what == 0 ? 0 : -5;
    }

    long guarded(int standing) {
        if (noStand(standing)) return NONE;
        TreeSet<Integer> set = alive();
        set.removeIf(k -> !dared(now.stands.get(standing), k, 1).isEmpty());
        return bits(set);
    }

    long marry(int standing, int a, int b, int what) {
        if (noStand(standing) || noKing(a) || noKing(b) || what < 0 || what > 1) return -1000;
        if (a == b) return -1001;
        if (fallen(a) || fallen(b)) return -1002;
        Stand s = now.stands.get(standing);
        List<int[]> before = pairs(s);
        All kept = now;
        now = now.copy();
        now.kings.get(a).strength = Math.min(99, strength(a) + strength(b));
        now.kings.get(b).strength = 0;
        now.kings.get(b).fallen = true;
        List<int[]> then = pairs(s);
        now = kept;
        TreeSet<Integer> bars = new TreeSet<>();
        for (int c : alive()) {
            long few = before.stream().filter(p -> p[1] == c).count(), many = then.stream().filter(p -> p[1] == c).count();
            if (c != a && c != b && many > few) bars.add(c);
        }
        return what == 0 ? then.size() - before.size() : bits(bars);
    }

    /** The KIND, from this one upwards, that has a body for the act; the bodies' numbers tell the KIND, too. */
    private static int body(int kind, int act) {
        String bodies = " 1 2 3 11.1 21.0 31.2 41.2 51.0 61.1 ";
        if (kind == 0) return act + 1;
        return bodies.contains(" " + kind + "1." + act + " ") ? kind * 10 + 1 : body(ABOVE[kind], act);
    }

    private int run(Stand s, int kind, int act, int x) {
        int body = body(kind, act);
        trace.add(body);
        switch (body) {
            case 1: return x + s.number;
            case 2: return run(s, s.kind, 0, x) - s.v;
            case 3: return run(s, s.kind, 1, x) * 2;
            case 11: return run(s, 0, 1, x * 3);
            case 21: return -run(s, 0, 0, x);
            case 31: return run(s, 0, 2, x) ^ 7;
            case 41: {
                int left = run(s, 2, 2, x - 1);
                return left + run(s, s.kind, 0, 2);
            }
            case 51: return run(s, 3, 0, x) ^ s.number;
            default: return run(s, 3, 1, x) + s.v;
        }
    }

    long act(int standing, int act, int x) {
        trace = new ArrayList<>();
        if (noStand(standing) || act < 0 || act > 2) return 0;
        Stand s = now.stands.get(standing);
        return run(s, s.kind, act, x);
    }

    long trace(int i) {
        return i < 0 || i >= Math.min(20, trace.size()) ? NONE : trace.get(i);
    }

    long as(int standing, int k) {
        if (noStand(standing) || k < 0 || k > 6) return NONE;
        for (int kind = now.stands.get(standing).kind; kind >= 0; kind = ABOVE[kind]) {
            if (kind == k) return now.stands.get(standing).v;
        }
        return -6;
    }

    long image() {
        image = now.copy();
        return now.kings.size();
    }

    long undo() {
        if (image == null) return STATE;
        now = image.copy();
        return now.kings.size();
    }

    long count(int what) {
        if (what < 0 || what > 6) return NONE;
        return new int[] {now.kings.size(), alive().size(), now.worlds, now.stands.size(), now.tape.length(), trace.size(), now.wars}[what];
    }
}
