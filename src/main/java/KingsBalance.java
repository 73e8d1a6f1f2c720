/** Balance of powers. What each call promises stands in the document; README.md says how to use it. */
public final class KingsBalance {
    public static final int NONE = -1, BAD = -2, STATE = -3, FULL = -4;
    public static final long NO = Long.MIN_VALUE;

    private static final int MOST_KINGS = 7, MOST_STRENGTH = 99, MOST_PLACE = 40, MOST_WORTH = 99;
    private static final int MOST_PACT = 3, MOST_BLOCK = 6, MOST_V = 9;
    private static final int MOST_STANDINGS = 8, KINDS = 7, TAPE_SIZE = 120;
    private static final int MOST_WARS = 20, MOST_ROUNDS = 30, MOST_CHANGE = 30, TRACE_KEPT = 20;

    private static final int NOBODY = -5, OTHER_KIND = -6, TOO_MANY = -9, FAULT = -10;
    // MARRY's own number may be below 0, so its refusals stand far off
    private static final int MARRY_NONE = -1000, MARRY_BAD = -1001, MARRY_STATE = -1002;

    private final Realm realm = new Realm();
    private final Realm kept = new Realm();
    private boolean hasImage = false;
    private final World draft = new World();
    private final Ways ways = new Ways();
    /** How many bodies ran in the latest act; behind it those that are kept. */
    private final int[] bodies = new int[TRACE_KEPT + 1];
    private final int[] daredNow = new int[MOST_KINGS];

    public KingsBalance() {
    }

    // ---- kings, worlds

    public int king(int strength, int place) {
        if (outside(strength, MOST_STRENGTH) || outside(place, MOST_PLACE)) return BAD;
        if (realm.kings >= MOST_KINGS) return FULL;
        return realm.add(strength, place);
    }

    public int of(int king, int what) {
        if (!realm.has(king)) return NONE;
        switch (what) {
            case 0: return realm.strength[king];
            case 1: return realm.place[king];
            case 2: return realm.lives(king) ? 0 : 1;
            case 3: return realm.owner[king];
            default: return NONE;
        }
    }

    public int arm(int king, int n) {
        if (!realm.has(king)) return NONE;
        if (outside(n, MOST_STRENGTH)) return BAD;
        if (!realm.lives(king)) return STATE;
        int was = realm.strength[king];
        realm.strength[king] = n;
        return was;
    }

    public int worth(int land, int king, int n) {
        if (!realm.has(land) || !realm.has(king)) return NONE;
        if (land == king || outside(n, MOST_WORTH)) return BAD;
        int was = realm.worth[land][king];
        realm.worth[land][king] = n;
        return was;
    }

    public int pact(int king, int with, int n) {
        if (!realm.has(king) || !realm.has(with)) return NONE;
        if (king == with || outside(n, MOST_PACT)) return BAD;
        int was = realm.pact[king][with];
        realm.pact[king][with] = n;
        return was;
    }

    public int feed(long w, int n) {
        if (n < 1 || n > 8) return BAD;
        if (realm.tape.size + n > TAPE_SIZE) return FULL;
        for (int i = n - 1; i >= 0; i--) realm.tape.put((int) (w >>> (8 * i)) & 255);
        return realm.tape.size;
    }

    public int world() {
        int fault = draft.read(realm.tape);
        realm.tape.size = 0;
        if (fault >= 0) return FAULT - fault;
        realm.world.become(draft);
        realm.worlds++;
        return realm.worlds;
    }

    public int cost(int king, int other) {
        if (!realm.has(king) || !realm.has(other)) return NONE;
        if (king == other) return BAD;
        return realm.world.costOf(realm, king, other);
    }

    public int force(int king, int place) {
        if (!realm.has(king)) return NONE;
        if (outside(place, MOST_PLACE)) return BAD;
        return realm.forceAt(king, place);
    }

    // ---- standings

    public int standing(int kind, int v) {
        if (outside(kind, KINDS - 1)) return NONE;
        if (outside(v, MOST_V)) return BAD;
        int number = realm.standings;
        if (number >= MOST_STANDINGS) return FULL;
        realm.standing[number] = made(kind, number, v);
        realm.standings++;
        return number;
    }

    public int block(int standing, int king, int n) {
        if (realm.standingAt(standing) == null || !realm.has(king)) return NONE;
        if (outside(n, MOST_BLOCK)) return BAD;
        int was = realm.block[standing][king];
        realm.block[standing][king] = n;
        return was;
    }

    public int comes(int standing, int a, int b, int what) {
        Standing s = realm.standingAt(standing);
        if (s == null || outside(what, 1)) return NONE;
        int refusal = pairRefusal(a, b);
        if (refusal != 0) return refusal;
        int camps = s.camps(realm, a, b);
        return what == 0 ? Standing.attackers(camps) : Standing.defenders(camps);
    }

    public long war(int standing, int a, int b, int what) {
        Standing s = realm.standingAt(standing);
        if (s == null || pairRefusal(a, b) != 0) return NO;
        int camps = s.camps(realm, a, b);
        int sumA = realm.forcesAt(Standing.attackers(camps), realm.place[b]);
        int sumB = realm.forcesAt(Standing.defenders(camps), realm.place[b]);
        switch (what) {
            case 0: return sumA;
            case 1: return sumB;
            case 2: return (sumA > sumB ? realm.worth[b][a] : -realm.worth[a][b]) - realm.world.costOf(realm, a, b);
            default: return NO;
        }
    }

    public int dares(int standing, int king, int what) {
        Standing s = realm.standingAt(standing);
        if (s == null || !realm.has(king) || outside(what, 1)) return NONE;
        return what == 0 ? s.prey(realm, king) : s.hunters(realm, king);
    }

    public int first(int standing) {
        Standing s = realm.standingAt(standing);
        return s == null ? NONE : s.firstWar(realm);
    }

    // ---- words, blocks

    public int keeps(int king, int d, int e) {
        if (!realm.has(king) || !realm.has(d) || !realm.has(e)) return NONE;
        if (king == d || king == e || d == e) return BAD;
        if (!realm.lives(king) || !realm.lives(d) || !realm.lives(e)) return STATE;
        return realm.standsWith(king, d) && realm.bears(king, e) ? 1 : 0;
    }

    public int empty(int king) {
        if (!realm.has(king)) return NONE;
        if (!realm.lives(king)) return 0;
        int bits = 0;
        for (int d = 0; d < realm.kings; d++) {
            if (d != king && realm.lives(d) && realm.standsWith(king, d) && !realm.bearsOneBut(king, d)) {
                bits |= 1 << d;
            }
        }
        return bits;
    }

    public int all(int what) {
        if (outside(what, 2)) return NONE;
        if (!ways.fits(realm)) return TOO_MANY;
        return ways.number(realm, what >= 1, what == 2);
    }

    public int quiet(int i, int king, boolean hold) {
        if (!realm.has(king) || !realm.lives(king)) return NONE;
        if (!ways.fits(realm)) return TOO_MANY;
        return ways.find(realm, i, hold) ? ways.blockOf(realm, king) : NONE;
    }

    // ---- wars, arms

    public int lead(int standing, int a, int b) {
        Standing s = realm.standingAt(standing);
        if (s == null) return NONE;
        int refusal = pairRefusal(a, b);
        if (refusal != 0) return refusal;
        return s.fight(realm, a, b) ? 1 : 0;
    }

    public int next(int standing) {
        Standing s = realm.standingAt(standing);
        if (s == null) return NONE;
        for (int led = 0; led < MOST_WARS; led++) {
            int pair = s.firstWar(realm);
            if (pair < 0) return led;
            s.fight(realm, pair / 10, pair % 10);
        }
        return MOST_WARS;
    }

    public int edge(int king) {
        if (!realm.has(king)) return NONE;
        if (!realm.lives(king)) return STATE;
        return realm.turns(king);
    }

    public int courted() {
        int best = NOBODY, most = -1;
        for (int k = 0; k < realm.kings; k++) {
            if (!realm.lives(k)) continue;
            int strength = realm.strength[k];
            int share = strength > 0 ? realm.turns(k) * 100 / strength : 0;
            if (share > most) {
                most = share;
                best = k;
            }
        }
        return best;
    }

    public int race(int standing) {
        Standing s = realm.standingAt(standing);
        if (s == null) return NONE;
        for (int round = 0; round < MOST_ROUNDS; round++) {
            if (!armedInRound(s)) return round;
        }
        return MOST_ROUNDS;
    }

    public int few(int standing, int what) {
        Standing s = realm.standingAt(standing);
        if (s == null || outside(what, 1)) return NONE;
        if (s.firstWar(realm) >= 0) return STATE;
        for (int n = 1; n <= MOST_CHANGE; n++) {
            // of one size, less goes ahead of more
            int king = upsetBy(s, -n);
            if (king >= 0) return what == 0 ? -n : king;
            king = upsetBy(s, n);
            if (king >= 0) return what == 0 ? n : king;
        }
        return what == 0 ? 0 : NOBODY;
    }

    public int guarded(int standing) {
        Standing s = realm.standingAt(standing);
        if (s == null) return NONE;
        int bits = 0;
        for (int k = 0; k < realm.kings; k++) {
            if (realm.lives(k) && s.hunters(realm, k) == 0) bits |= 1 << k;
        }
        return bits;
    }

    public int marry(int standing, int a, int b, int what) {
        Standing s = realm.standingAt(standing);
        if (s == null || outside(what, 1)) return MARRY_NONE;
        switch (pairRefusal(a, b)) {
            case NONE: return MARRY_NONE;
            case BAD: return MARRY_BAD;
            case STATE: return MARRY_STATE;
            default: return married(s, a, b, what == 0);
        }
    }

    // ---- acts, the image

    public int act(int standing, int act, int x) {
        bodies[0] = 0;
        Standing s = realm.standingAt(standing);
        if (s == null) return 0;
        switch (act) {
            case 0: return s.comesAct(bodies, x);
            case 1: return s.daresAct(bodies, x);
            case 2: return s.holdsAct(bodies, x);
            default: return 0;
        }
    }

    public int trace(int i) {
        if (i < 0 || i >= bodies[0] || i >= TRACE_KEPT) return NONE;
        return bodies[i + 1];
    }

    public int as(int standing, int k) {
        Standing s = realm.standingAt(standing);
        if (s == null || outside(k, KINDS - 1)) return NONE;
        return isOf(s, k) ? s.v : OTHER_KIND;
    }

    public int image() {
        kept.become(realm);
        hasImage = true;
        return realm.kings;
    }

    public int undo() {
        if (!hasImage) return STATE;
        realm.become(kept);
        return realm.kings;
    }

    public int count(int what) {
        switch (what) {
            case 0: return realm.kings;
            case 1: return Integer.bitCount(realm.alive);
            case 2: return realm.worlds;
            case 3: return realm.standings;
            case 4: return realm.tape.size;
            case 5: return bodies[0];
            case 6: return realm.wars;
            default: return NONE;
        }
    }

    // ---- what the calls share

    private static boolean outside(int n, int most) {
        return n < 0 || n > most;
    }

    /** Why there is no war of a on b, or 0. */
    private int pairRefusal(int a, int b) {
        if (!realm.has(a) || !realm.has(b)) return NONE;
        if (a == b) return BAD;
        return realm.lives(a) && realm.lives(b) ? 0 : STATE;
    }

    private static Standing made(int kind, int number, int v) {
        switch (kind) {
            case 1: return new Alone(number, v);
            case 2: return new Sides(number, v);
            case 3: return new Web(number, v);
            case 4: return new League(number, v);
            case 5: return new Guard(number, v);
            case 6: return new True(number, v);
            default: return new Standing(number, v);
        }
    }

    private static boolean isOf(Standing s, int kind) {
        switch (kind) {
            case 1: return s instanceof Alone;
            case 2: return s instanceof Sides;
            case 3: return s instanceof Web;
            case 4: return s instanceof League;
            case 5: return s instanceof Guard;
            case 6: return s instanceof True;
            default: return true;
        }
    }

    private boolean armedInRound(Standing s) {
        boolean changed = false;
        for (int k = 0; k < realm.kings; k++) {
            if (realm.strength[k] < MOST_STRENGTH && s.hunters(realm, k) != 0) {
                realm.strength[k]++;
                changed = true;
            }
        }
        return changed;
    }

    /** The least KING with whose changed STRENGTH the STANDING is not QUIET, or NOBODY. */
    private int upsetBy(Standing s, int change) {
        for (int k = 0; k < realm.kings; k++) {
            int was = realm.strength[k];
            if (!realm.lives(k) || outside(was + change, MOST_STRENGTH)) continue;
            realm.strength[k] = was + change;
            boolean upset = s.firstWar(realm) >= 0;
            realm.strength[k] = was;
            if (upset) return k;
        }
        return NOBODY;
    }

    private int married(Standing s, int a, int b, boolean pairs) {
        int strengthA = realm.strength[a], strengthB = realm.strength[b];
        int more = 0, bars = 0;
        for (int k = 0; k < realm.kings; k++) daredNow[k] = Integer.bitCount(s.hunters(realm, k));
        realm.strength[a] = Math.min(MOST_STRENGTH, strengthA + strengthB);
        realm.strength[b] = 0;
        realm.alive ^= 1 << b;
        for (int k = 0; k < realm.kings; k++) {
            int grown = Integer.bitCount(s.hunters(realm, k)) - daredNow[k];
            more += grown;
            if (grown > 0 && k != a && k != b) bars |= 1 << k;
        }
        realm.alive ^= 1 << b;
        realm.strength[b] = strengthB;
        realm.strength[a] = strengthA;
        return pairs ? more : bars;
    }

    /** All that an image keeps. What is not there yet (KINGS, STANDINGS) always stands as if new. */
    private static final class Realm {
        int kings = 0;
        /** Bits of the KINGS that are alive. */
        int alive = 0;
        int worlds = 0;
        int standings = 0;
        int wars = 0;
        final int[] strength = new int[MOST_KINGS];
        final int[] place = new int[MOST_KINGS];
        final int[] owner = new int[MOST_KINGS];
        final int[][] worth = new int[MOST_KINGS][MOST_KINGS];
        final int[][] pact = new int[MOST_KINGS][MOST_KINGS];
        final Tape tape = new Tape();
        final World world = new World();
        final Standing[] standing = new Standing[MOST_STANDINGS];
        /** A row for each STANDING, and one more for the ways to part the KINGS. */
        final int[][] block = new int[MOST_STANDINGS + 1][MOST_KINGS];

        Realm() {
            for (int k = 0; k < MOST_KINGS; k++) {
                owner[k] = k;
                for (int other = 0; other < MOST_KINGS; other++) worth[k][other] = 10;
                for (int s = 0; s < MOST_STANDINGS; s++) block[s][k] = k;
            }
        }

        void become(Realm other) {
            kings = other.kings;
            alive = other.alive;
            worlds = other.worlds;
            standings = other.standings;
            wars = other.wars;
            for (int k = 0; k < MOST_KINGS; k++) {
                strength[k] = other.strength[k];
                place[k] = other.place[k];
                owner[k] = other.owner[k];
                System.arraycopy(other.worth[k], 0, worth[k], 0, MOST_KINGS);
                System.arraycopy(other.pact[k], 0, pact[k], 0, MOST_KINGS);
            }
            for (int s = 0; s < MOST_STANDINGS; s++) {
                standing[s] = other.standing[s];
                System.arraycopy(other.block[s], 0, block[s], 0, MOST_KINGS);
            }
            tape.become(other.tape);
            world.become(other.world);
        }

        boolean has(int king) {
            return king >= 0 && king < kings;
        }

        boolean lives(int king) {
            return (alive >> king & 1) != 0;
        }

        Standing standingAt(int number) {
            return number >= 0 && number < standings ? standing[number] : null;
        }

        int add(int itsStrength, int itsPlace) {
            int king = kings;
            strength[king] = itsStrength;
            place[king] = itsPlace;
            alive |= 1 << king;
            kings++;
            return king;
        }

        int forceAt(int king, int where) {
            return Math.max(0, strength[king] * 1000 - world.less * Math.abs(place[king] - where));
        }

        int forcesAt(int bits, int where) {
            int sum = 0;
            for (int k = 0; k < kings; k++) {
                if ((bits >> k & 1) != 0) sum += forceAt(k, where);
            }
            return sum;
        }

        int strengthOf(int bits) {
            int sum = 0;
            for (int k = 0; k < kings; k++) {
                if ((bits >> k & 1) != 0) sum += strength[k];
            }
            return sum;
        }

        /** Whether he has a PACT by which he would come to the other one. */
        boolean standsWith(int king, int other) {
            return pact[king][other] == 1 || pact[king][other] == 2;
        }

        /** Whether a war with that enemy costs him no more than a broken word. */
        boolean bears(int king, int enemy) {
            return world.costOf(this, king, enemy) <= world.word;
        }

        /** Whether he would KEEP his word with d against at least one of the others. */
        boolean bearsOneBut(int king, int d) {
            int others = alive & ~(1 << king | 1 << d);
            for (int e = 0; e < kings; e++) {
                if ((others >> e & 1) != 0 && bears(king, e)) return true;
            }
            return false;
        }

        int turns(int king) {
            int others = alive & ~(1 << king), whole = strengthOf(alive), n = 0;
            for (int set = 0; set <= others; set++) {
                if ((set & others) != set) continue;
                int twice = 2 * strengthOf(set);
                if (twice <= whole && twice + 2 * strength[king] > whole) n++;
            }
            return n;
        }

        void halve(int bits) {
            for (int k = 0; k < kings; k++) {
                if ((bits >> k & 1) != 0) strength[k] /= 2;
            }
        }

        void wear(int bits, int lostSum, int wonSum) {
            if (wonSum <= 0) return;
            for (int k = 0; k < kings; k++) {
                if ((bits >> k & 1) != 0) strength[k] -= strength[k] * lostSum / (2 * wonSum);
            }
        }

        void fall(int king, int victor, int strengthBefore) {
            strength[king] = 0;
            alive &= ~(1 << king);
            owner[king] = victor;
            strength[victor] = Math.min(MOST_STRENGTH, strength[victor] + world.take * strengthBefore / 100);
        }
    }

    /** THE TAPE, with a place up to which it has been read. */
    private static final class Tape {
        private final int[] bytes = new int[TAPE_SIZE];
        int size = 0;
        int at = 0;

        void become(Tape other) {
            System.arraycopy(other.bytes, 0, bytes, 0, TAPE_SIZE);
            size = other.size;
        }

        void put(int b) {
            if (size >= TAPE_SIZE) return;
            bytes[size] = b;
            size++;
        }

        /** Steps over the next byte if it is one of these signs: which one; -1 if not. */
        int pick(String signs) {
            if (at >= size || at >= TAPE_SIZE) return -1;
            for (int i = 0; i < signs.length(); i++) {
                if (signs.charAt(i) == bytes[at]) {
                    at++;
                    return i;
                }
            }
            return -1;
        }

        boolean goesOn(String text) {
            for (int i = 0; i < text.length(); i++) {
                if (at >= size || at >= TAPE_SIZE || bytes[at] != text.charAt(i)) return false;
                at++;
            }
            return true;
        }

        /** A number of 1 to 3 digits, no 0 ahead of another; -1 if there is none. */
        int numeral() {
            int n = pick("0123456789");
            if (n <= 0) return n;
            for (int i = 1; i < 3; i++) {
                int digit = pick("0123456789");
                if (digit < 0) return n;
                n = n * 10 + digit;
            }
            return n;
        }
    }

    /** What a WORLD says. The conditions are kept in steps, each one's parts ahead of what joins them. */
    private static final class World {
        private static final int CLAUSES = 10, MOST_OPEN = 5;
        // the tests' letters have the numbers 0 to 3
        private static final int NOT = 4, AND = 5, OR = 6;
        private static final int LESS = 0, SAME = 1, MORE = 2;

        int word = 0;
        int less = 0;
        int take = 0;
        private int costs = 0;
        private int steps = 0;
        private final int[] price = new int[CLAUSES];
        private final int[] end = new int[CLAUSES];
        private final int[] what = new int[TAPE_SIZE];
        private final int[] sign = new int[TAPE_SIZE];
        private final int[] number = new int[TAPE_SIZE];
        private final int[] facts = new int[4];

        void become(World other) {
            word = other.word;
            less = other.less;
            take = other.take;
            costs = other.costs;
            steps = other.steps;
            System.arraycopy(other.price, 0, price, 0, CLAUSES);
            System.arraycopy(other.end, 0, end, 0, CLAUSES);
            System.arraycopy(other.what, 0, what, 0, TAPE_SIZE);
            System.arraycopy(other.sign, 0, sign, 0, TAPE_SIZE);
            System.arraycopy(other.number, 0, number, 0, TAPE_SIZE);
        }

        /** What all cost clauses that hold come to. Truths that wait are bits, the newest one lowest. */
        int costOf(Realm r, int king, int other) {
            facts[0] = Math.abs(r.place[king] - r.place[other]);
            facts[1] = r.strength[king];
            facts[2] = r.strength[other];
            facts[3] = king;
            int sum = 0, at = 0;
            for (int c = 0; c < costs && c < CLAUSES; c++) {
                int bits = 0;
                for (; at < end[c] && at < TAPE_SIZE; at++) {
                    switch (what[at]) {
                        case NOT: bits ^= 1; break;
                        case AND: bits = bits >> 1 & (bits & 1 | -2); break;
                        case OR: bits = bits >> 1 | bits & 1; break;
                        default:
                            int fact = facts[what[at] & 3];
                            int is = fact < number[at] ? LESS : fact > number[at] ? MORE : SAME;
                            bits = bits << 1 | (is == sign[at] ? 1 : 0);
                    }
                }
                if ((bits & 1) != 0) sum += price[c];
            }
            return sum;
        }

        /** Becomes what THE TAPE says: -1; or the FAULT, and what it has become is of no use. */
        int read(Tape t) {
            word = 0;
            less = 0;
            take = 0;
            costs = 0;
            steps = 0;
            t.at = 0;
            for (int c = 1; c <= CLAUSES; c++) {
                if (!clause(t)) return t.at;
                if (t.at >= t.size) return -1;
                if (c == CLAUSES || t.pick(";") < 0) return t.at;
            }
            return t.at;
        }

        private boolean clause(Tape t) {
            int n;
            switch (t.pick("cwlt")) {
                case 0: return priced(t);
                case 1:
                    n = amount(t, "ord ");
                    word = n;
                    return n >= 0;
                case 2:
                    n = amount(t, "ess ");
                    less = n;
                    return n >= 0;
                case 3:
                    n = amount(t, "ake ");
                    take = n;
                    return n >= 0;
                default: return false;
            }
        }

        private int amount(Tape t, String word) {
            return t.goesOn(word) ? t.numeral() : -1;
        }

        private boolean priced(Tape t) {
            int n = amount(t, "ost ");
            if (n < 0 || t.pick(" ") < 0 || !either(t, 0) || costs >= CLAUSES) return false;
            price[costs] = n;
            end[costs] = steps;
            costs++;
            return true;
        }

        private boolean either(Tape t, int open) {
            if (!both(t, open)) return false;
            for (int i = 0; i < TAPE_SIZE && t.pick("|") == 0; i++) {
                if (!both(t, open)) return false;
                step(OR, 0, 0);
            }
            return true;
        }

        private boolean both(Tape t, int open) {
            if (!single(t, open)) return false;
            for (int i = 0; i < TAPE_SIZE && t.pick("&") == 0; i++) {
                if (!single(t, open)) return false;
                step(AND, 0, 0);
            }
            return true;
        }

        private boolean single(Tape t, int open) {
            // with all open that may be, neither sign can go on, and the test finds the FAULT at it
            int opener = open < MOST_OPEN ? t.pick("!(") : -1;
            if (opener < 0) return test(t);
            if (opener == 1) return either(t, open + 1) && t.pick(")") == 0;
            if (!single(t, open + 1)) return false;
            step(NOT, 0, 0);
            return true;
        }

        private boolean test(Tape t) {
            int letter = t.pick("msok");
            if (letter < 0) return false;
            int compare = t.pick("<=>");
            if (compare < 0) return false;
            int n = t.numeral();
            if (n < 0) return false;
            step(letter, compare, n);
            return true;
        }

        private void step(int itsWhat, int itsSign, int itsNumber) {
            if (steps >= TAPE_SIZE) return;
            what[steps] = itsWhat;
            sign[steps] = itsSign;
            number[steps] = itsNumber;
            steps++;
        }
    }

    /** Goes through the ways to part the KINGS in BLOCKS, in the order of their rows. */
    private static final class Ways {
        private static final int MOST_ALIVE = 6, MOST_WAYS = 203, SPARE = MOST_STANDINGS;

        private final Sides sides = new Sides(SPARE, 0);
        private final int[] members = new int[MOST_KINGS];
        private int size = 0;

        boolean fits(Realm r) {
            return Integer.bitCount(r.alive) <= MOST_ALIVE;
        }

        int blockOf(Realm r, int king) {
            return r.block[SPARE][king];
        }

        /** How many ways there are; or QUIET ones; or such that HOLD, too. */
        int number(Realm r, boolean quietOnes, boolean holdingOnes) {
            int n = 0;
            begin(r);
            for (int way = 0; way < MOST_WAYS; way++) {
                if ((!quietOnes || sides.firstWar(r) < 0) && (!holdingOnes || steady(r))) n++;
                if (!advance(r.block[SPARE])) break;
            }
            return n;
        }

        /** Stops at the i-th QUIET way, if there is such a one. */
        boolean find(Realm r, int i, boolean holdingOnes) {
            int n = 0;
            begin(r);
            for (int way = 0; way < MOST_WAYS; way++) {
                if (sides.firstWar(r) < 0 && (!holdingOnes || steady(r))) {
                    if (n == i) return true;
                    n++;
                }
                if (!advance(r.block[SPARE])) break;
            }
            return false;
        }

        private void begin(Realm r) {
            size = 0;
            for (int k = 0; k < r.kings; k++) {
                r.block[SPARE][k] = 0;
                if (r.lives(k)) {
                    members[size] = k;
                    size++;
                }
            }
        }

        private boolean advance(int[] row) {
            for (int i = size - 1; i > 0; i--) {
                if (row[members[i]] <= highest(row, i)) {
                    row[members[i]]++;
                    return true;
                }
                row[members[i]] = 0;
            }
            return false;
        }

        /** The greatest BLOCK of the first n members. */
        private int highest(int[] row, int n) {
            int top = 0;
            for (int i = 0; i < n; i++) top = Math.max(top, row[members[i]]);
            return top;
        }

        private boolean steady(Realm r) {
            int[] row = r.block[SPARE];
            int ownBlock = highest(row, size) + 1;
            for (int i = 0; i < size; i++) {
                int king = members[i], was = row[king];
                boolean tempted = false;
                for (int n = 0; n <= ownBlock && !tempted; n++) {
                    row[king] = n;
                    tempted = n != was && sides.prey(r, king) != 0;
                }
                row[king] = was;
                if (tempted) return false;
            }
            return true;
        }
    }

    /** Even numbers come to the one side, odd ones to the other; and what all KINDS share. */
    private static class Standing {
        private static final int EVERYONE = 127, EVEN = 85, ODD = 42, SHIFT = 8;

        final int number;
        final int v;

        Standing(int number, int v) {
            this.number = number;
            this.v = v;
        }

        /** WHO COMES if a attacks b: both sides' bits in one number. */
        int camps(Realm r, int a, int b) {
            return joined(r, a, b, EVEN, ODD);
        }

        static int joined(Realm r, int a, int b, int toA, int toB) {
            int others = r.alive & ~(1 << a | 1 << b);
            return toA & others | 1 << a | (toB & others | 1 << b) << SHIFT;
        }

        static int attackers(int camps) {
            return camps & EVERYONE;
        }

        static int defenders(int camps) {
            return camps >> SHIFT & EVERYONE;
        }

        /** Whether a DARES b, both alive and not the same. A war that is lost never has a GAIN above 0. */
        private boolean gains(Realm r, int a, int b) {
            if (r.worth[b][a] == 0) return false;
            int camps = camps(r, a, b);
            int sumA = r.forcesAt(attackers(camps), r.place[b]);
            return sumA > r.forcesAt(defenders(camps), r.place[b]) && r.worth[b][a] > r.world.costOf(r, a, b);
        }

        /** Bits of those whom a KING DARES. */
        final int prey(Realm r, int a) {
            int bits = 0;
            for (int b = 0; b < r.kings; b++) {
                if (a != b && r.lives(a) && r.lives(b) && gains(r, a, b)) bits |= 1 << b;
            }
            return bits;
        }

        /** Bits of those by whom a KING is DARED. */
        final int hunters(Realm r, int b) {
            int bits = 0;
            for (int a = 0; a < r.kings; a++) {
                if (a != b && r.lives(a) && r.lives(b) && gains(r, a, b)) bits |= 1 << a;
            }
            return bits;
        }

        final int firstWar(Realm r) {
            for (int a = 0; a < r.kings; a++) {
                for (int b = 0; b < r.kings; b++) {
                    if (a != b && r.lives(a) && r.lives(b) && gains(r, a, b)) return 10 * a + b;
                }
            }
            return NOBODY;
        }

        /** Leads a war of a on b: whether a's side won. */
        final boolean fight(Realm r, int a, int b) {
            int camps = camps(r, a, b), strengthB = r.strength[b];
            int sumA = r.forcesAt(attackers(camps), r.place[b]);
            int sumB = r.forcesAt(defenders(camps), r.place[b]);
            boolean won = sumA > sumB;
            if (won) {
                r.halve(defenders(camps));
                r.wear(attackers(camps), sumB, sumA);
                r.fall(b, a, strengthB);
            } else {
                r.halve(attackers(camps));
                r.wear(defenders(camps), sumA, sumB);
            }
            r.wars++;
            return won;
        }

        int comesAct(int[] trace, int x) {
            note(trace, 1);
            return x + number;
        }

        int daresAct(int[] trace, int x) {
            note(trace, 2);
            return comesAct(trace, x) - v;
        }

        int holdsAct(int[] trace, int x) {
            note(trace, 3);
            return daresAct(trace, x) * 2;
        }

        static void note(int[] trace, int body) {
            trace[0]++;
            if (trace[0] < trace.length) trace[trace[0]] = body;
        }
    }

    private static final class Alone extends Standing {
        Alone(int number, int v) {
            super(number, v);
        }

        int camps(Realm r, int a, int b) {
            return joined(r, a, b, 0, 0);
        }

        int daresAct(int[] trace, int x) {
            note(trace, 11);
            return super.daresAct(trace, x * 3);
        }
    }

    private static class Sides extends Standing {
        Sides(int number, int v) {
            super(number, v);
        }

        int camps(Realm r, int a, int b) {
            int ofA = blockBits(r, a);
            return (ofA >> b & 1) != 0 ? joined(r, a, b, 0, 0) : joined(r, a, b, ofA, blockBits(r, b));
        }

        final int blockBits(Realm r, int king) {
            int[] row = r.block[number];
            int bits = 0;
            for (int k = 0; k < r.kings; k++) {
                if (row[k] == row[king]) bits |= 1 << k;
            }
            return bits;
        }

        int comesAct(int[] trace, int x) {
            note(trace, 21);
            return -super.comesAct(trace, x);
        }
    }

    private static class Web extends Standing {
        Web(int number, int v) {
            super(number, v);
        }

        int camps(Realm r, int a, int b) {
            int toA = 0, toB = 0;
            for (int c = 0; c < r.kings; c++) {
                int withA = r.pact[c][a], withB = r.pact[c][b];
                if (withA == 3 || withB == 3) continue;
                boolean forA = withA == 2, forB = withB != 0;
                if (forA && !forB) toA |= 1 << c;
                if (forB && !forA) toB |= 1 << c;
            }
            return joined(r, a, b, toA, toB);
        }

        int holdsAct(int[] trace, int x) {
            note(trace, 31);
            return super.holdsAct(trace, x) ^ 7;
        }
    }

    private static final class League extends Sides {
        League(int number, int v) {
            super(number, v);
        }

        int camps(Realm r, int a, int b) {
            int ofA = blockBits(r, a);
            if (2 * r.strengthOf(ofA) <= r.strengthOf(r.alive)) return super.camps(r, a, b);
            return joined(r, a, b, (ofA >> b & 1) != 0 ? 0 : ofA, ~ofA);
        }

        int holdsAct(int[] trace, int x) {
            note(trace, 41);
            return super.holdsAct(trace, x - 1) + comesAct(trace, 2);
        }
    }

    private static final class Guard extends Web {
        Guard(int number, int v) {
            super(number, v);
        }

        int camps(Realm r, int a, int b) {
            return b == v ? joined(r, a, b, 0, r.alive) : super.camps(r, a, b);
        }

        int comesAct(int[] trace, int x) {
            note(trace, 51);
            return super.comesAct(trace, x) ^ number;
        }
    }

    private static final class True extends Web {
        True(int number, int v) {
            super(number, v);
        }

        int camps(Realm r, int a, int b) {
            int camps = super.camps(r, a, b);
            return joined(r, a, b, keepers(r, attackers(camps), b), keepers(r, defenders(camps), a));
        }

        private static int keepers(Realm r, int bits, int enemy) {
            int kept = 0;
            for (int c = 0; c < r.kings; c++) {
                if ((bits >> c & 1) != 0 && r.world.costOf(r, c, enemy) <= r.world.word) kept |= 1 << c;
            }
            return kept;
        }

        int daresAct(int[] trace, int x) {
            note(trace, 61);
            return super.daresAct(trace, x) + v;
        }
    }
}
